def f_X3_copyOne (this : Nat) (p0 : Int32) (p1 : Option Nat) (h : Hp) : Option (Unit × Hp) :=
  (getR h (some this) 3 0).bind fun x1 =>
  (getR h p1 3 0).bind fun x2 =>
  (aldD h x2 p0).bind fun x3 =>
  (astD h x1 p0 x3).bind fun h4 =>
  (getR h4 (some this) 3 1).bind fun x5 =>
  (getR h4 p1 3 1).bind fun x6 =>
  (aldI h4 x6 12 p0).bind fun x7 =>
  (astZ h4 x5 p0 x7).bind fun h8 =>
  some ((), h8)
theorem mi_X3_copyOne : ab_MI yX3_copyOne cX3_copyOne 3 none 2 := ⟨lc_yX3_copyOne, lz_RX3, by decide, by decide, by decide +kernel⟩
set_option maxHeartbeats 4000000 in
set_option maxRecDepth 100000 in
theorem c_X3_copyOne (l : Launch) (D : va_G) (cA : Nat → ClassId) (sz : Nat) {this : Nat} {p0 : Int32} {p1 : Option Nat} {h hh : Hp}  (hF : f_X3_copyOne this p0 p1 h = some ((), hh)) : ab_C l D cA sz yX3_copyOne cX3_copyOne 3 none 0 0 0 [.ref this, .int p0, va_rf p1] h none hh := by
  refine Met.ofW (cc := cX3_copyOne) (maxL := 3) (ret := none) (by decide) rfl ?_
  intro p e s m args below meth c s₁ B hml hv
  obtain ⟨rfl, hT, hR⟩ := hv
  have X : ab_X p s m _ meth c cX3_copyOne 3 RX3 D cA sz := (ab_enter B hml hT hR).1
  have S := (ab_enter B hml hT hR).2
  have hr := B.returns
  obtain ⟨ls, hls, hl⟩ := ab_entry m [.ref this, .int p0, va_rf p1] 3 (lv := [(0, .ref this), (1, .int p0), (2, va_rf p1)]) (by simp [lg_sl, ab_cat, ab_cI, ab_cJ, ab_cD, ab_cF, ab_cA]) (by simp [lv_args, ab_cat, ab_cI, ab_cJ, ab_cD, ab_cF, ab_cA])
  rw [hls]
  have hl : lv_has ls 3 [(0, va_rf (some this)), (1, .int p0), (2, va_rf p1)] := hl
  unfold f_X3_copyOne at hF
  show W p l e (ab_rm 0 0 0) s m _ below meth c s.heap [] 0 0 _ _
  refine ab_aload_n X dX3_copyOne_0 rfl (lv_at hl 0 rfl) ?_
  refine ab_getR X S hF fi_3_0 lf_X3_7 dX3_copyOne_1 (fun x1 hF => ?_)
  refine lv_iload_n X.1 X.2.1 dX3_copyOne_4 rfl (lv_at hl 1 rfl) ?_
  refine ab_aload_n X dX3_copyOne_5 rfl (lv_at hl 2 rfl) ?_
  refine ab_getR X S hF fi_3_0 lf_X3_7 dX3_copyOne_6 (fun x2 hF => ?_)
  refine lv_iload_n X.1 X.2.1 dX3_copyOne_9 rfl (lv_at hl 1 rfl) ?_
  refine ab_aldD X S hF dX3_copyOne_10 (fun x3 hF => ?_)
  refine ab_astD X S hF dX3_copyOne_11 (fun h4 H1 locs1 hF S => ?_)
  refine ab_aload_n X dX3_copyOne_12 rfl (lv_at hl 0 rfl) ?_
  refine ab_getR X S hF fi_3_1 lf_X3_13 dX3_copyOne_13 (fun x5 hF => ?_)
  refine lv_iload_n X.1 X.2.1 dX3_copyOne_16 rfl (lv_at hl 1 rfl) ?_
  refine ab_aload_n X dX3_copyOne_17 rfl (lv_at hl 2 rfl) ?_
  refine ab_getR X S hF fi_3_1 lf_X3_13 dX3_copyOne_18 (fun x6 hF => ?_)
  refine lv_iload_n X.1 X.2.1 dX3_copyOne_21 rfl (lv_at hl 1 rfl) ?_
  refine ab_aldZ X S hF dX3_copyOne_22 (fun x7 hF => ?_)
  refine ab_astZ X S hF dX3_copyOne_23 (fun h8 H1 locs1 hF S => ?_)
  exact ab_vret X S hr hF dX3_copyOne_24
def f_X3_put_41   (h : Hp) : Option (Unit × Hp) :=
  some ((), h)
set_option maxHeartbeats 4000000 in
set_option maxRecDepth 100000 in
theorem w_X3_put_41 {p : Program} {l : Launch} {e : Env} {s : State} {m : MethodId} {args : Array Value} {below : List Frame} {meth : Method} {c : Code} {D : va_G} {cA : Nat → ClassId} {sz : Nat}  {hh : Hp}  (X : ab_X p s m args meth c cX3_put 6 RX3 D cA sz) (hr : meth.sig.returnType = none)  {H : Heap} {locs : List Loc} {ls : Array Slot}  {h : Hp} (S : ab_H D cA sz h s H locs) (hl : lv_has ls 6 []) (hF : f_X3_put_41  h = some ((), hh)) : W p l e (ab_rm 0 0 0) s m args below meth c H locs 0 0 (MQ below (ab_Q D cA sz none hh) args s 0 0 (fun q => sz ≤ q)) (F0 m 41 ls []) := by
  unfold f_X3_put_41 at hF
  exact ab_vret X S hr hF dX3_put_41
def f_X3_put_40  (u0 : UInt64) (u1 : Int32) (u2 : Option Nat) (h : Hp) : Option (Unit × Hp) :=
  (astD h u2 u1 u0).bind fun h1 =>
  f_X3_put_41 h1
set_option maxHeartbeats 4000000 in
set_option maxRecDepth 100000 in
theorem w_X3_put_40 {p : Program} {l : Launch} {e : Env} {s : State} {m : MethodId} {args : Array Value} {below : List Frame} {meth : Method} {c : Code} {D : va_G} {cA : Nat → ClassId} {sz : Nat}  {hh : Hp}  (X : ab_X p s m args meth c cX3_put 6 RX3 D cA sz) (hr : meth.sig.returnType = none)  {H : Heap} {locs : List Loc} {ls : Array Slot} {u0 : UInt64} {u1 : Int32} {u2 : Option Nat} {h : Hp} (S : ab_H D cA sz h s H locs) (hl : lv_has ls 6 []) (hF : f_X3_put_40 u0 u1 u2 h = some ((), hh)) : W p l e (ab_rm 0 0 0) s m args below meth c H locs 0 0 (MQ below (ab_Q D cA sz none hh) args s 0 0 (fun q => sz ≤ q)) (F0 m 40 ls [.double u0, .int u1, va_rf u2]) := by
  unfold f_X3_put_40 at hF
  refine ab_astD X S hF dX3_put_40 (fun h1 H1 locs1 hF S => ?_)
  exact w_X3_put_41 X hr  S (lv_sub hl [] rfl) hF
def f_X3_put (this : Nat) (p0 : Int32) (p1 : UInt64) (p2 : Int32) (p3 : Int32) (h : Hp) : Option (Unit × Hp) :=
  (getR h (some this) 3 1).bind fun x1 =>
  (astZ h x1 p0 p2).bind fun h2 =>
  if p2 = 0 then
    (getR h2 (some this) 3 0).bind fun x4 =>
    if p3 = 0 then
      f_X3_put_40 p1 p0 x4 h2
    else
      (fop32 (FP.d2f p1)).bind fun x6 =>
      (fop (FP.f2d x6)).bind fun x7 =>
      f_X3_put_40 x7 p0 x4 h2
  else
    (getR h2 (some this) 3 0).bind fun x8 =>
    (astD h2 x8 p0 FP.dconst0).bind fun h9 =>
    f_X3_put_41 h9
theorem mi_X3_put : ab_MI yX3_put cX3_put 6 none 4 := ⟨lc_yX3_put, lz_RX3, by decide, by decide, by decide +kernel⟩
set_option maxHeartbeats 4000000 in
set_option maxRecDepth 100000 in
theorem c_X3_put (l : Launch) (D : va_G) (cA : Nat → ClassId) (sz : Nat) {this : Nat} {p0 : Int32} {p1 : UInt64} {p2 : Int32} {p3 : Int32} {h hh : Hp}  (hF : f_X3_put this p0 p1 p2 p3 h = some ((), hh)) : ab_C l D cA sz yX3_put cX3_put 6 none 0 0 0 [.ref this, .int p0, .double p1, .int p2, .int p3] h none hh := by
  refine Met.ofW (cc := cX3_put) (maxL := 6) (ret := none) (by decide) rfl ?_
  intro p e s m args below meth c s₁ B hml hv
  obtain ⟨rfl, hT, hR⟩ := hv
  have X : ab_X p s m _ meth c cX3_put 6 RX3 D cA sz := (ab_enter B hml hT hR).1
  have S := (ab_enter B hml hT hR).2
  have hr := B.returns
  obtain ⟨ls, hls, hl⟩ := ab_entry m [.ref this, .int p0, .double p1, .int p2, .int p3] 6 (lv := [(0, .ref this), (1, .int p0), (2, .double p1), (4, .int p2), (5, .int p3)]) (by simp [lg_sl, ab_cat, ab_cI, ab_cJ, ab_cD, ab_cF, ab_cA]) (by simp [lv_args, ab_cat, ab_cI, ab_cJ, ab_cD, ab_cF, ab_cA])
  rw [hls]
  have hl : lv_has ls 6 [(0, va_rf (some this)), (1, .int p0), (2, .double p1), (4, .int p2), (5, .int p3)] := hl
  unfold f_X3_put at hF
  show W p l e (ab_rm 0 0 0) s m _ below meth c s.heap [] 0 0 _ _
  refine ab_aload_n X dX3_put_0 rfl (lv_at hl 0 rfl) ?_
  refine ab_getR X S hF fi_3_1 lf_X3_13 dX3_put_1 (fun x1 hF => ?_)
  refine lv_iload_n X.1 X.2.1 dX3_put_4 rfl (lv_at hl 1 rfl) ?_
  refine lv_iload X.1 X.2.1 dX3_put_5 (lv_at hl 3 rfl) ?_
  refine ab_astZ X S hF dX3_put_7 (fun h2 H1 locs1 hF S => ?_)
  refine lv_iload X.1 X.2.1 dX3_put_8 (lv_at hl 3 rfl) ?_
  refine lv_if_eq (tgt := 23) X.1 X.2.1 dX3_put_10 (by decide) (fun c3 => ?_) (fun c3 => ?_)
  · have hF := ab_pos c3 hF
    refine ab_aload_n X dX3_put_23 rfl (lv_at hl 0 rfl) ?_
    refine ab_getR X S hF fi_3_0 lf_X3_7 dX3_put_24 (fun x4 hF => ?_)
    refine lv_iload_n X.1 X.2.1 dX3_put_27 rfl (lv_at hl 1 rfl) ?_
    refine lv_iload X.1 X.2.1 dX3_put_28 (lv_at hl 4 rfl) ?_
    refine lv_if_eq (tgt := 39) X.1 X.2.1 dX3_put_30 (by decide) (fun c5 => ?_) (fun c5 => ?_)
    · have hF := ab_pos c5 hF
      refine lv_dload_n X.1 X.2.1 dX3_put_39 rfl (lv_at hl 2 rfl) ?_
      exact w_X3_put_40 X hr  S (lv_sub hl [] rfl) hF
    · have hF := ab_neg c5 hF
      refine lv_dload_n X.1 X.2.1 dX3_put_33 rfl (lv_at hl 2 rfl) ?_
      obtain ⟨x6, ev, ne, hF⟩ := ab_fopx32 hF
      refine lv_d2f X.1 X.2.1 dX3_put_34 ne ?_
      rw [ev]
      obtain ⟨x7, ev, ne, hF⟩ := ab_fopx hF
      refine lv_f2d X.1 X.2.1 dX3_put_35 ne ?_
      rw [ev]
      refine lv_goto (tgt := 40) X.1 X.2.1 dX3_put_36 (by decide) ?_
      exact w_X3_put_40 X hr  S (lv_sub hl [] rfl) hF
  · have hF := ab_neg c3 hF
    refine ab_aload_n X dX3_put_13 rfl (lv_at hl 0 rfl) ?_
    refine ab_getR X S hF fi_3_0 lf_X3_7 dX3_put_14 (fun x8 hF => ?_)
    refine lv_iload_n X.1 X.2.1 dX3_put_17 rfl (lv_at hl 1 rfl) ?_
    refine lv_dconst0 X.1 X.2.1 dX3_put_18 ?_
    refine ab_astD X S hF dX3_put_19 (fun h9 H1 locs1 hF S => ?_)
    refine lv_goto (tgt := 41) X.1 X.2.1 dX3_put_20 (by decide) ?_
    exact w_X3_put_41 X hr  S (lv_sub hl [] rfl) hF
def f_X3_isFinite_42   (h : Hp) : Option (Int32 × Hp) :=
  if 0 = 0 ∨ 0 = 1 then some (0, h) else none
set_option maxHeartbeats 4000000 in
set_option maxRecDepth 100000 in
theorem w_X3_isFinite_42 {p : Program} {l : Launch} {e : Env} {s : State} {m : MethodId} {args : Array Value} {below : List Frame} {meth : Method} {c : Code} {D : va_G} {cA : Nat → ClassId} {sz : Nat} {rr : Int32} {hh : Hp}  (X : ab_X p s m args meth c cX3_isFinite 3 RX3 D cA sz) (hr : meth.sig.returnType = (some .boolean))  {H : Heap} {locs : List Loc} {ls : Array Slot}  {h : Hp} (S : ab_H D cA sz h s H locs) (hl : lv_has ls 3 []) (hF : f_X3_isFinite_42  h = some (rr, hh)) : W p l e (ab_rm 0 0 0) s m args below meth c H locs 0 0 (MQ below (ab_Q D cA sz (some (.int rr)) hh) args s 0 0 (fun q => sz ≤ q)) (F0 m 42 ls []) := by
  unfold f_X3_isFinite_42 at hF
  refine lv_iconst (v := 0) X.1 X.2.1 dX3_isFinite_42 (by decide) ?_
  exact ab_zret X S hr hF dX3_isFinite_43
def f_X3_isFinite_2  : Nat → Option Nat → Int32 → Int32 → Hp → Option (Int32 × Hp)
  | 0, _, _, _, _ => none
  | n + 1, v0, v1, v2, h => if v1 ≤ v2 then
      if 1 = 0 ∨ 1 = 1 then some (1, h) else none
    else
      (getR h v0 3 1).bind fun x2 =>
      (aldI h x2 12 v2).bind fun x3 =>
      if ¬ x3 = 0 then
        f_X3_isFinite_42 h
      else
        (getR h v0 3 0).bind fun x5 =>
        (aldD h x5 v2).bind fun x6 =>
        if 0 < (Op.cmpValue (FP.dcmp x6 9218868437227405311) CmpOp.l) then
          f_X3_isFinite_42 h
        else
          (getR h v0 3 0).bind fun x8 =>
          (aldD h x8 v2).bind fun x9 =>
          if 0 ≤ (Op.cmpValue (FP.dcmp x9 18442240474082181119) CmpOp.g) then
            f_X3_isFinite_2 n v0 v1 (v2 + 1) h
          else
            f_X3_isFinite_42 h
set_option maxHeartbeats 4000000 in
set_option maxRecDepth 100000 in
theorem w_X3_isFinite_2 {p : Program} {l : Launch} {e : Env} {s : State} {m : MethodId} {args : Array Value} {below : List Frame} {meth : Method} {c : Code} {D : va_G} {cA : Nat → ClassId} {sz : Nat} {rr : Int32} {hh : Hp}  (X : ab_X p s m args meth c cX3_isFinite 3 RX3 D cA sz) (hr : meth.sig.returnType = (some .boolean))  (n : Nat) : ∀ (v0 : Option Nat) (v1 : Int32) (v2 : Int32) (h : Hp) (H : Heap) (locs : List Loc) (ls : Array Slot), ab_H D cA sz h s H locs → lv_has ls 3 [(0, va_rf v0), (1, .int v1), (2, .int v2)] → f_X3_isFinite_2 n v0 v1 v2 h = some (rr, hh) → W p l e (ab_rm 0 0 0) s m args below meth c H locs 0 0 (MQ below (ab_Q D cA sz (some (.int rr)) hh) args s 0 0 (fun q => sz ≤ q)) (F0 m 2 ls []) := by
  induction n with
  | zero => intro v0 v1 v2 h H locs ls S hl hF; cases hF
  | succ n ih =>
    intro v0 v1 v2 h H locs ls S hl hF
    rw [f_X3_isFinite_2] at hF
    refine lv_iload_n X.1 X.2.1 dX3_isFinite_2 rfl (lv_at hl 2 rfl) ?_
    refine lv_iload_n X.1 X.2.1 dX3_isFinite_3 rfl (lv_at hl 1 rfl) ?_
    refine lv_icmp_ge (tgt := 50) X.1 X.2.1 dX3_isFinite_4 (by decide) (fun c1 => ?_) (fun c1 => ?_)
    · have hF := ab_pos c1 hF
      refine lv_iconst (v := 1) X.1 X.2.1 dX3_isFinite_50 (by decide) ?_
      exact ab_zret X S hr hF dX3_isFinite_51
    · have hF := ab_neg c1 hF
      refine ab_aload_n X dX3_isFinite_7 rfl (lv_at hl 0 rfl) ?_
      refine ab_getR X S hF fi_3_1 lf_X3_13 dX3_isFinite_8 (fun x2 hF => ?_)
      refine lv_iload_n X.1 X.2.1 dX3_isFinite_11 rfl (lv_at hl 2 rfl) ?_
      refine ab_aldZ X S hF dX3_isFinite_12 (fun x3 hF => ?_)
      refine lv_if_ne (tgt := 42) X.1 X.2.1 dX3_isFinite_13 (by decide) (fun c4 => ?_) (fun c4 => ?_)
      · have hF := ab_pos c4 hF
        exact w_X3_isFinite_42 X hr  S (lv_sub hl [] rfl) hF
      · have hF := ab_neg (fun q => q c4) hF
        refine ab_aload_n X dX3_isFinite_16 rfl (lv_at hl 0 rfl) ?_
        refine ab_getR X S hF fi_3_0 lf_X3_7 dX3_isFinite_17 (fun x5 hF => ?_)
        refine lv_iload_n X.1 X.2.1 dX3_isFinite_20 rfl (lv_at hl 2 rfl) ?_
        refine ab_aldD X S hF dX3_isFinite_21 (fun x6 hF => ?_)
        refine lv_ldc2d (v := 9218868437227405311) X.1 X.2.1 X.2.2.2.1 (X.2.2.2.2.1 _ ld_X3_17) dX3_isFinite_22 ?_
        refine lv_dcmp X.1 X.2.1 dX3_isFinite_25 ?_
        refine lv_if_gt (tgt := 42) X.1 X.2.1 dX3_isFinite_26 (by decide) (fun c7 => ?_) (fun c7 => ?_)
        · have hF := ab_pos c7 hF
          exact w_X3_isFinite_42 X hr  S (lv_sub hl [] rfl) hF
        · have hF := ab_neg c7 hF
          refine ab_aload_n X dX3_isFinite_29 rfl (lv_at hl 0 rfl) ?_
          refine ab_getR X S hF fi_3_0 lf_X3_7 dX3_isFinite_30 (fun x8 hF => ?_)
          refine lv_iload_n X.1 X.2.1 dX3_isFinite_33 rfl (lv_at hl 2 rfl) ?_
          refine ab_aldD X S hF dX3_isFinite_34 (fun x9 hF => ?_)
          refine lv_ldc2d (v := 18442240474082181119) X.1 X.2.1 X.2.2.2.1 (X.2.2.2.2.1 _ ld_X3_19) dX3_isFinite_35 ?_
          refine lv_dcmp X.1 X.2.1 dX3_isFinite_38 ?_
          refine lv_if_ge (tgt := 44) X.1 X.2.1 dX3_isFinite_39 (by decide) (fun c10 => ?_) (fun c10 => ?_)
          · have hF := ab_pos c10 hF
            refine lv_iinc (v := v2 + 1) (lv' := [(2, .int (v2 + 1)), (0, va_rf v0), (1, .int v1)]) X.1 X.2.1 dX3_isFinite_44 hl (k := 2) rfl (by rfl) (by decide) (by simp [ab_cat, ab_cI, ab_cJ, ab_cD, ab_cF]) (fun ls hl => ?_)
            refine lv_goto (tgt := 2) X.1 X.2.1 dX3_isFinite_47 (by decide) ?_
            exact ih _ _ _ _ _ _ _ S (lv_sub hl [1, 2, 0] rfl) hF
          · have hF := ab_neg c10 hF
            exact w_X3_isFinite_42 X hr  S (lv_sub hl [] rfl) hF
def f_X3_isFinite (this : Nat) (p0 : Int32) (h : Hp) : Option (Int32 × Hp) :=
  f_X3_isFinite_2 fuelN (some this) p0 0 h
theorem mi_X3_isFinite : ab_MI yX3_isFinite cX3_isFinite 3 (some .boolean) 1 := ⟨lc_yX3_isFinite, lz_RX3, by decide, by decide, by decide +kernel⟩
set_option maxHeartbeats 4000000 in
set_option maxRecDepth 100000 in
theorem c_X3_isFinite (l : Launch) (D : va_G) (cA : Nat → ClassId) (sz : Nat) {this : Nat} {p0 : Int32} {h hh : Hp} {rr : Int32} (hF : f_X3_isFinite this p0 h = some (rr, hh)) : ab_C l D cA sz yX3_isFinite cX3_isFinite 3 (some .boolean) 0 0 0 [.ref this, .int p0] h (some (.int rr)) hh := by
  refine Met.ofW (cc := cX3_isFinite) (maxL := 3) (ret := (some .boolean)) (by decide) rfl ?_
  intro p e s m args below meth c s₁ B hml hv
  obtain ⟨rfl, hT, hR⟩ := hv
  have X : ab_X p s m _ meth c cX3_isFinite 3 RX3 D cA sz := (ab_enter B hml hT hR).1
  have S := (ab_enter B hml hT hR).2
  have hr := B.returns
  obtain ⟨ls, hls, hl⟩ := ab_entry m [.ref this, .int p0] 3 (lv := [(0, .ref this), (1, .int p0)]) (by simp [lg_sl, ab_cat, ab_cI, ab_cJ, ab_cD, ab_cF, ab_cA]) (by simp [lv_args, ab_cat, ab_cI, ab_cJ, ab_cD, ab_cF, ab_cA])
  rw [hls]
  have hl : lv_has ls 3 [(0, va_rf (some this)), (1, .int p0)] := hl
  unfold f_X3_isFinite at hF
  show W p l e (ab_rm 0 0 0) s m _ below meth c s.heap [] 0 0 _ _
  refine lv_iconst (v := 0) X.1 X.2.1 dX3_isFinite_0 (by decide) ?_
  refine lv_istore_n (i := 2) (lv' := [(2, .int 0), (0, va_rf (some this)), (1, .int p0)]) X.1 X.2.1 dX3_isFinite_1 rfl hl (by decide) (by simp [ab_cat, ab_cI, ab_cJ, ab_cD, ab_cF]) (fun ls hl => ?_)
  exact w_X3_isFinite_2 X hr  fuelN _ _ _ _ _ _ _ S (lv_sub hl [1, 2, 0] rfl) hF
def f_X5_add_26  (v0 : Option Nat) (v1 : UInt64) (v3 : UInt64) (h : Hp) : Option (Int32 × Hp) :=
  (getI h v0 5 3).bind fun x1 =>
  if x1 < 16 then
    (getR h v0 5 1).bind fun x3 =>
    (getI h v0 5 3).bind fun x4 =>
    (astD h x3 x4 v1).bind fun h5 =>
    (getR h5 v0 5 2).bind fun x6 =>
    (getI h5 v0 5 3).bind fun x7 =>
    (astD h5 x6 x7 v3).bind fun h8 =>
    (getI h8 v0 5 3).bind fun x9 =>
    (putI h8 v0 5 3 (x9 + 1)).bind fun h10 =>
    (getI h10 v0 5 3).bind fun x11 =>
    some (x11 - 1, h10)
  else
    some ((-3), h)
set_option maxHeartbeats 4000000 in
set_option maxRecDepth 100000 in
theorem w_X5_add_26 {p : Program} {l : Launch} {e : Env} {s : State} {m : MethodId} {args : Array Value} {below : List Frame} {meth : Method} {c : Code} {D : va_G} {cA : Nat → ClassId} {sz : Nat} {rr : Int32} {hh : Hp}  (X : ab_X p s m args meth c cX5_add 5 RX5 D cA sz) (hr : meth.sig.returnType = (some .int))  {H : Heap} {locs : List Loc} {ls : Array Slot} {v0 : Option Nat} {v1 : UInt64} {v3 : UInt64} {h : Hp} (S : ab_H D cA sz h s H locs) (hl : lv_has ls 5 [(0, va_rf v0), (1, .double v1), (3, .double v3)]) (hF : f_X5_add_26 v0 v1 v3 h = some (rr, hh)) : W p l e (ab_rm 0 0 0) s m args below meth c H locs 0 0 (MQ below (ab_Q D cA sz (some (.int rr)) hh) args s 0 0 (fun q => sz ≤ q)) (F0 m 26 ls []) := by
  unfold f_X5_add_26 at hF
  refine ab_aload_n X dX5_add_26 rfl (lv_at hl 0 rfl) ?_
  refine ab_getI X S hF fi_5_3 lf_X5_22 dX5_add_27 (fun x1 hF => ?_)
  refine lv_bipush (v := 16) X.1 X.2.1 dX5_add_30 (by decide) ?_
  refine lv_icmp_lt (tgt := 38) X.1 X.2.1 dX5_add_32 (by decide) (fun c2 => ?_) (fun c2 => ?_)
  · have hF := ab_pos c2 hF
    refine ab_aload_n X dX5_add_38 rfl (lv_at hl 0 rfl) ?_
    refine ab_getR X S hF fi_5_1 lf_X5_15 dX5_add_39 (fun x3 hF => ?_)
    refine ab_aload_n X dX5_add_42 rfl (lv_at hl 0 rfl) ?_
    refine ab_getI X S hF fi_5_3 lf_X5_22 dX5_add_43 (fun x4 hF => ?_)
    refine lv_dload_n X.1 X.2.1 dX5_add_46 rfl (lv_at hl 1 rfl) ?_
    refine ab_astD X S hF dX5_add_47 (fun h5 H1 locs1 hF S => ?_)
    refine ab_aload_n X dX5_add_48 rfl (lv_at hl 0 rfl) ?_
    refine ab_getR X S hF fi_5_2 lf_X5_19 dX5_add_49 (fun x6 hF => ?_)
    refine ab_aload_n X dX5_add_52 rfl (lv_at hl 0 rfl) ?_
    refine ab_getI X S hF fi_5_3 lf_X5_22 dX5_add_53 (fun x7 hF => ?_)
    refine lv_dload_n X.1 X.2.1 dX5_add_56 rfl (lv_at hl 2 rfl) ?_
    refine ab_astD X S hF dX5_add_57 (fun h8 H1 locs1 hF S => ?_)
    refine ab_aload_n X dX5_add_58 rfl (lv_at hl 0 rfl) ?_
    refine lv_dup X.1 X.2.1 dX5_add_59 (by simp [ab_cat, ab_cI, ab_cJ, ab_cD, ab_cF]) ?_
    refine ab_getI X S hF fi_5_3 lf_X5_22 dX5_add_60 (fun x9 hF => ?_)
    refine lv_iconst (v := 1) X.1 X.2.1 dX5_add_63 (by decide) ?_
    refine lv_iadd X.1 X.2.1 dX5_add_64 ?_
    refine ab_putI X S hF fi_5_3 ci_5 (Or.inl rfl) rfl lf_X5_22 dX5_add_65 (fun h10 H1 locs1 hF S => ?_)
    refine ab_aload_n X dX5_add_68 rfl (lv_at hl 0 rfl) ?_
    refine ab_getI X S hF fi_5_3 lf_X5_22 dX5_add_69 (fun x11 hF => ?_)
    refine lv_iconst (v := 1) X.1 X.2.1 dX5_add_72 (by decide) ?_
    refine lv_isub X.1 X.2.1 dX5_add_73 ?_
    exact ab_iret X S hr hF dX5_add_74
  · have hF := ab_neg c2 hF
    refine lv_bipush (v := (-3)) X.1 X.2.1 dX5_add_35 (by decide) ?_
    exact ab_iret X S hr hF dX5_add_37
def f_X5_add (this : Nat) (p0 : UInt64) (p1 : UInt64) (h : Hp) : Option (Int32 × Hp) :=
  (getI h (some this) 5 3).bind fun x1 =>
  if x1 ≤ 0 then
    f_X5_add_26 (some this) p0 p1 h
  else
    (getR h (some this) 5 1).bind fun x3 =>
    (getI h (some this) 5 3).bind fun x4 =>
    (aldD h x3 (x4 - 1)).bind fun x5 =>
    if 0 < (Op.cmpValue (FP.dcmp p0 x5) CmpOp.g) then
      f_X5_add_26 (some this) p0 p1 h
    else
      some ((-2), h)
theorem mi_X5_add : ab_MI yX5_add cX5_add 5 (some .int) 2 := ⟨lc_yX5_add, lz_RX5, by decide, by decide, by decide +kernel⟩
set_option maxHeartbeats 4000000 in
set_option maxRecDepth 100000 in
theorem c_X5_add (l : Launch) (D : va_G) (cA : Nat → ClassId) (sz : Nat) {this : Nat} {p0 : UInt64} {p1 : UInt64} {h hh : Hp} {rr : Int32} (hF : f_X5_add this p0 p1 h = some (rr, hh)) : ab_C l D cA sz yX5_add cX5_add 5 (some .int) 0 0 0 [.ref this, .double p0, .double p1] h (some (.int rr)) hh := by
  refine Met.ofW (cc := cX5_add) (maxL := 5) (ret := (some .int)) (by decide) rfl ?_
  intro p e s m args below meth c s₁ B hml hv
  obtain ⟨rfl, hT, hR⟩ := hv
  have X : ab_X p s m _ meth c cX5_add 5 RX5 D cA sz := (ab_enter B hml hT hR).1
  have S := (ab_enter B hml hT hR).2
  have hr := B.returns
  obtain ⟨ls, hls, hl⟩ := ab_entry m [.ref this, .double p0, .double p1] 5 (lv := [(0, .ref this), (1, .double p0), (3, .double p1)]) (by simp [lg_sl, ab_cat, ab_cI, ab_cJ, ab_cD, ab_cF, ab_cA]) (by simp [lv_args, ab_cat, ab_cI, ab_cJ, ab_cD, ab_cF, ab_cA])
  rw [hls]
  have hl : lv_has ls 5 [(0, va_rf (some this)), (1, .double p0), (3, .double p1)] := hl
  unfold f_X5_add at hF
  show W p l e (ab_rm 0 0 0) s m _ below meth c s.heap [] 0 0 _ _
  refine ab_aload_n X dX5_add_0 rfl (lv_at hl 0 rfl) ?_
  refine ab_getI X S hF fi_5_3 lf_X5_22 dX5_add_1 (fun x1 hF => ?_)
  refine lv_if_le (tgt := 26) X.1 X.2.1 dX5_add_4 (by decide) (fun c2 => ?_) (fun c2 => ?_)
  · have hF := ab_pos c2 hF
    exact w_X5_add_26 X hr  S (lv_sub hl [0, 1, 2] rfl) hF
  · have hF := ab_neg c2 hF
    refine lv_dload_n X.1 X.2.1 dX5_add_7 rfl (lv_at hl 1 rfl) ?_
    refine ab_aload_n X dX5_add_8 rfl (lv_at hl 0 rfl) ?_
    refine ab_getR X S hF fi_5_1 lf_X5_15 dX5_add_9 (fun x3 hF => ?_)
    refine ab_aload_n X dX5_add_12 rfl (lv_at hl 0 rfl) ?_
    refine ab_getI X S hF fi_5_3 lf_X5_22 dX5_add_13 (fun x4 hF => ?_)
    refine lv_iconst (v := 1) X.1 X.2.1 dX5_add_16 (by decide) ?_
    refine lv_isub X.1 X.2.1 dX5_add_17 ?_
    refine ab_aldD X S hF dX5_add_18 (fun x5 hF => ?_)
    refine lv_dcmp X.1 X.2.1 dX5_add_19 ?_
    refine lv_if_gt (tgt := 26) X.1 X.2.1 dX5_add_20 (by decide) (fun c6 => ?_) (fun c6 => ?_)
    · have hF := ab_pos c6 hF
      exact w_X5_add_26 X hr  S (lv_sub hl [0, 1, 2] rfl) hF
    · have hF := ab_neg c6 hF
      refine lv_bipush (v := (-2)) X.1 X.2.1 dX5_add_23 (by decide) ?_
      exact ab_iret X S hr hF dX5_add_25
def f_X5_heightAt_72  (v0 : Option Nat) (v3 : Int32) (h : Hp) : Option (UInt64 × Hp) :=
  (getR h v0 5 2).bind fun x1 =>
  (aldD h x1 v3).bind fun x2 =>
  some (x2, h)
set_option maxHeartbeats 4000000 in
set_option maxRecDepth 100000 in
theorem w_X5_heightAt_72 {p : Program} {l : Launch} {e : Env} {s : State} {m : MethodId} {args : Array Value} {below : List Frame} {meth : Method} {c : Code} {D : va_G} {cA : Nat → ClassId} {sz : Nat} {rr : UInt64} {hh : Hp}  (X : ab_X p s m args meth c cX5_heightAt 6 RX5 D cA sz) (hr : meth.sig.returnType = (some .double))  {H : Heap} {locs : List Loc} {ls : Array Slot} {v0 : Option Nat} {v3 : Int32} {h : Hp} (S : ab_H D cA sz h s H locs) (hl : lv_has ls 6 [(0, va_rf v0), (3, .int v3)]) (hF : f_X5_heightAt_72 v0 v3 h = some (rr, hh)) : W p l e (ab_rm 0 0 0) s m args below meth c H locs 0 0 (MQ below (ab_Q D cA sz (some (.double rr)) hh) args s 0 0 (fun q => sz ≤ q)) (F0 m 72 ls []) := by
  unfold f_X5_heightAt_72 at hF
  refine ab_aload_n X dX5_heightAt_72 rfl (lv_at hl 0 rfl) ?_
  refine ab_getR X S hF fi_5_2 lf_X5_19 dX5_heightAt_73 (fun x1 hF => ?_)
  refine lv_iload_n X.1 X.2.1 dX5_heightAt_76 rfl (lv_at hl 1 rfl) ?_
  refine ab_aldD X S hF dX5_heightAt_77 (fun x2 hF => ?_)
  exact ab_dret X S hr hF dX5_heightAt_78
def f_X5_heightAt_44  (v0 : Option Nat) (v1 : UInt64) (v3 : Int32) (h : Hp) : Option (UInt64 × Hp) :=
  (getI h v0 5 0).bind fun x1 =>
  if x1 = 0 then
    f_X5_heightAt_72 v0 v3 h
  else
    (getR h v0 5 1).bind fun x3 =>
    (aldD h x3 v3).bind fun x4 =>
    if (Op.cmpValue (FP.dcmp v1 x4) CmpOp.g) ≤ 0 then
      f_X5_heightAt_72 v0 v3 h
    else
      (getI h v0 5 3).bind fun x6 =>
      if (v3 + 1) < x6 then
        (getR h v0 5 1).bind fun x8 =>
        (aldD h x8 v3).bind fun x9 =>
        (fop (FP.dsub v1 x9)).bind fun x10 =>
        (getR h v0 5 1).bind fun x11 =>
        (aldD h x11 (v3 + 1)).bind fun x12 =>
        (getR h v0 5 1).bind fun x13 =>
        (aldD h x13 v3).bind fun x14 =>
        (fop (FP.dsub x12 x14)).bind fun x15 =>
        (fop (FP.ddiv x10 x15)).bind fun x16 =>
        (getR h v0 5 2).bind fun x17 =>
        (aldD h x17 v3).bind fun x18 =>
        (getR h v0 5 2).bind fun x19 =>
        (aldD h x19 (v3 + 1)).bind fun x20 =>
        (getR h v0 5 2).bind fun x21 =>
        (aldD h x21 v3).bind fun x22 =>
        (fop (FP.dsub x20 x22)).bind fun x23 =>
        (fop (FP.dmul x23 x16)).bind fun x24 =>
        (fop (FP.dadd x18 x24)).bind fun x25 =>
        some (x25, h)
      else
        f_X5_heightAt_72 v0 v3 h
set_option maxHeartbeats 4000000 in
set_option maxRecDepth 100000 in
theorem w_X5_heightAt_44 {p : Program} {l : Launch} {e : Env} {s : State} {m : MethodId} {args : Array Value} {below : List Frame} {meth : Method} {c : Code} {D : va_G} {cA : Nat → ClassId} {sz : Nat} {rr : UInt64} {hh : Hp}  (X : ab_X p s m args meth c cX5_heightAt 6 RX5 D cA sz) (hr : meth.sig.returnType = (some .double))  {H : Heap} {locs : List Loc} {ls : Array Slot} {v0 : Option Nat} {v1 : UInt64} {v3 : Int32} {h : Hp} (S : ab_H D cA sz h s H locs) (hl : lv_has ls 6 [(0, va_rf v0), (1, .double v1), (3, .int v3)]) (hF : f_X5_heightAt_44 v0 v1 v3 h = some (rr, hh)) : W p l e (ab_rm 0 0 0) s m args below meth c H locs 0 0 (MQ below (ab_Q D cA sz (some (.double rr)) hh) args s 0 0 (fun q => sz ≤ q)) (F0 m 44 ls []) := by
  unfold f_X5_heightAt_44 at hF
  refine ab_aload_n X dX5_heightAt_44 rfl (lv_at hl 0 rfl) ?_
  refine ab_getI X S hF fi_5_0 lf_X5_9 dX5_heightAt_45 (fun x1 hF => ?_)
  refine lv_if_eq (tgt := 72) X.1 X.2.1 dX5_heightAt_48 (by decide) (fun c2 => ?_) (fun c2 => ?_)
  · have hF := ab_pos c2 hF
    exact w_X5_heightAt_72 X hr  S (lv_sub hl [0, 2] rfl) hF
  · have hF := ab_neg c2 hF
    refine lv_dload_n X.1 X.2.1 dX5_heightAt_51 rfl (lv_at hl 1 rfl) ?_
    refine ab_aload_n X dX5_heightAt_52 rfl (lv_at hl 0 rfl) ?_
    refine ab_getR X S hF fi_5_1 lf_X5_15 dX5_heightAt_53 (fun x3 hF => ?_)
    refine lv_iload_n X.1 X.2.1 dX5_heightAt_56 rfl (lv_at hl 2 rfl) ?_
    refine ab_aldD X S hF dX5_heightAt_57 (fun x4 hF => ?_)
    refine lv_dcmp X.1 X.2.1 dX5_heightAt_58 ?_
    refine lv_if_le (tgt := 72) X.1 X.2.1 dX5_heightAt_59 (by decide) (fun c5 => ?_) (fun c5 => ?_)
    · have hF := ab_pos c5 hF
      exact w_X5_heightAt_72 X hr  S (lv_sub hl [0, 2] rfl) hF
    · have hF := ab_neg c5 hF
      refine lv_iload_n X.1 X.2.1 dX5_heightAt_62 rfl (lv_at hl 2 rfl) ?_
      refine lv_iconst (v := 1) X.1 X.2.1 dX5_heightAt_63 (by decide) ?_
      refine lv_iadd X.1 X.2.1 dX5_heightAt_64 ?_
      refine ab_aload_n X dX5_heightAt_65 rfl (lv_at hl 0 rfl) ?_
      refine ab_getI X S hF fi_5_3 lf_X5_22 dX5_heightAt_66 (fun x6 hF => ?_)
      refine lv_icmp_lt (tgt := 79) X.1 X.2.1 dX5_heightAt_69 (by decide) (fun c7 => ?_) (fun c7 => ?_)
      · have hF := ab_pos c7 hF
        refine lv_dload_n X.1 X.2.1 dX5_heightAt_79 rfl (lv_at hl 1 rfl) ?_
        refine ab_aload_n X dX5_heightAt_80 rfl (lv_at hl 0 rfl) ?_
        refine ab_getR X S hF fi_5_1 lf_X5_15 dX5_heightAt_81 (fun x8 hF => ?_)
        refine lv_iload_n X.1 X.2.1 dX5_heightAt_84 rfl (lv_at hl 2 rfl) ?_
        refine ab_aldD X S hF dX5_heightAt_85 (fun x9 hF => ?_)
        obtain ⟨x10, ev, ne, hF⟩ := ab_fopx hF
        refine lv_dsub X.1 X.2.1 dX5_heightAt_86 ne ?_
        rw [ev]
        refine ab_aload_n X dX5_heightAt_87 rfl (lv_at hl 0 rfl) ?_
        refine ab_getR X S hF fi_5_1 lf_X5_15 dX5_heightAt_88 (fun x11 hF => ?_)
        refine lv_iload_n X.1 X.2.1 dX5_heightAt_91 rfl (lv_at hl 2 rfl) ?_
        refine lv_iconst (v := 1) X.1 X.2.1 dX5_heightAt_92 (by decide) ?_
        refine lv_iadd X.1 X.2.1 dX5_heightAt_93 ?_
        refine ab_aldD X S hF dX5_heightAt_94 (fun x12 hF => ?_)
        refine ab_aload_n X dX5_heightAt_95 rfl (lv_at hl 0 rfl) ?_
        refine ab_getR X S hF fi_5_1 lf_X5_15 dX5_heightAt_96 (fun x13 hF => ?_)
        refine lv_iload_n X.1 X.2.1 dX5_heightAt_99 rfl (lv_at hl 2 rfl) ?_
        refine ab_aldD X S hF dX5_heightAt_100 (fun x14 hF => ?_)
        obtain ⟨x15, ev, ne, hF⟩ := ab_fopx hF
        refine lv_dsub X.1 X.2.1 dX5_heightAt_101 ne ?_
        rw [ev]
        obtain ⟨x16, ev, ne, hF⟩ := ab_fopx hF
        refine lv_ddiv X.1 X.2.1 dX5_heightAt_102 ne ?_
        rw [ev]
        refine lv_dstore (lv' := [(4, .double x16), (0, va_rf v0), (1, .double v1), (3, .int v3)]) X.1 X.2.1 dX5_heightAt_103 hl (by decide) (by simp [ab_cat, ab_cI, ab_cJ, ab_cD, ab_cF]) (fun ls hl => ?_)
        refine ab_aload_n X dX5_heightAt_105 rfl (lv_at hl 1 rfl) ?_
        refine ab_getR X S hF fi_5_2 lf_X5_19 dX5_heightAt_106 (fun x17 hF => ?_)
        refine lv_iload_n X.1 X.2.1 dX5_heightAt_109 rfl (lv_at hl 3 rfl) ?_
        refine ab_aldD X S hF dX5_heightAt_110 (fun x18 hF => ?_)
        refine ab_aload_n X dX5_heightAt_111 rfl (lv_at hl 1 rfl) ?_
        refine ab_getR X S hF fi_5_2 lf_X5_19 dX5_heightAt_112 (fun x19 hF => ?_)
        refine lv_iload_n X.1 X.2.1 dX5_heightAt_115 rfl (lv_at hl 3 rfl) ?_
        refine lv_iconst (v := 1) X.1 X.2.1 dX5_heightAt_116 (by decide) ?_
        refine lv_iadd X.1 X.2.1 dX5_heightAt_117 ?_
        refine ab_aldD X S hF dX5_heightAt_118 (fun x20 hF => ?_)
        refine ab_aload_n X dX5_heightAt_119 rfl (lv_at hl 1 rfl) ?_
        refine ab_getR X S hF fi_5_2 lf_X5_19 dX5_heightAt_120 (fun x21 hF => ?_)
        refine lv_iload_n X.1 X.2.1 dX5_heightAt_123 rfl (lv_at hl 3 rfl) ?_
        refine ab_aldD X S hF dX5_heightAt_124 (fun x22 hF => ?_)
        obtain ⟨x23, ev, ne, hF⟩ := ab_fopx hF
        refine lv_dsub X.1 X.2.1 dX5_heightAt_125 ne ?_
        rw [ev]
        refine lv_dload X.1 X.2.1 dX5_heightAt_126 (lv_at hl 0 rfl) ?_
        obtain ⟨x24, ev, ne, hF⟩ := ab_fopx hF
        refine lv_dmul X.1 X.2.1 dX5_heightAt_128 ne ?_
        rw [ev]
        obtain ⟨x25, ev, ne, hF⟩ := ab_fopx hF
        refine lv_dadd X.1 X.2.1 dX5_heightAt_129 ne ?_
        rw [ev]
        exact ab_dret X S hr hF dX5_heightAt_130
      · have hF := ab_neg c7 hF
        exact w_X5_heightAt_72 X hr  S (lv_sub hl [0, 2] rfl) hF
def f_X5_heightAt_14  : Nat → Option Nat → UInt64 → Int32 → Int32 → Hp → Option (UInt64 × Hp)
  | 0, _, _, _, _, _ => none
  | n + 1, v0, v1, v3, v4, h => (getI h v0 5 3).bind fun x1 =>
    if x1 ≤ v4 then
      f_X5_heightAt_44 v0 v1 v3 h
    else
      (getR h v0 5 1).bind fun x3 =>
      (aldD h x3 v4).bind fun x4 =>
      if 0 < (Op.cmpValue (FP.dcmp x4 v1) CmpOp.g) then
        f_X5_heightAt_44 v0 v1 v3 h
      else
        f_X5_heightAt_14 n v0 v1 v4 (v4 + 1) h
set_option maxHeartbeats 4000000 in
set_option maxRecDepth 100000 in
theorem w_X5_heightAt_14 {p : Program} {l : Launch} {e : Env} {s : State} {m : MethodId} {args : Array Value} {below : List Frame} {meth : Method} {c : Code} {D : va_G} {cA : Nat → ClassId} {sz : Nat} {rr : UInt64} {hh : Hp}  (X : ab_X p s m args meth c cX5_heightAt 6 RX5 D cA sz) (hr : meth.sig.returnType = (some .double))  (n : Nat) : ∀ (v0 : Option Nat) (v1 : UInt64) (v3 : Int32) (v4 : Int32) (h : Hp) (H : Heap) (locs : List Loc) (ls : Array Slot), ab_H D cA sz h s H locs → lv_has ls 6 [(0, va_rf v0), (1, .double v1), (3, .int v3), (4, .int v4)] → f_X5_heightAt_14 n v0 v1 v3 v4 h = some (rr, hh) → W p l e (ab_rm 0 0 0) s m args below meth c H locs 0 0 (MQ below (ab_Q D cA sz (some (.double rr)) hh) args s 0 0 (fun q => sz ≤ q)) (F0 m 14 ls []) := by
  induction n with
  | zero => intro v0 v1 v3 v4 h H locs ls S hl hF; cases hF
  | succ n ih =>
    intro v0 v1 v3 v4 h H locs ls S hl hF
    rw [f_X5_heightAt_14] at hF
    refine lv_iload X.1 X.2.1 dX5_heightAt_14 (lv_at hl 3 rfl) ?_
    refine ab_aload_n X dX5_heightAt_16 rfl (lv_at hl 0 rfl) ?_
    refine ab_getI X S hF fi_5_3 lf_X5_22 dX5_heightAt_17 (fun x1 hF => ?_)
    refine lv_icmp_ge (tgt := 44) X.1 X.2.1 dX5_heightAt_20 (by decide) (fun c2 => ?_) (fun c2 => ?_)
    · have hF := ab_pos c2 hF
      exact w_X5_heightAt_44 X hr  S (lv_sub hl [0, 1, 2] rfl) hF
    · have hF := ab_neg c2 hF
      refine ab_aload_n X dX5_heightAt_23 rfl (lv_at hl 0 rfl) ?_
      refine ab_getR X S hF fi_5_1 lf_X5_15 dX5_heightAt_24 (fun x3 hF => ?_)
      refine lv_iload X.1 X.2.1 dX5_heightAt_27 (lv_at hl 3 rfl) ?_
      refine ab_aldD X S hF dX5_heightAt_29 (fun x4 hF => ?_)
      refine lv_dload_n X.1 X.2.1 dX5_heightAt_30 rfl (lv_at hl 1 rfl) ?_
      refine lv_dcmp X.1 X.2.1 dX5_heightAt_31 ?_
      refine lv_if_gt (tgt := 44) X.1 X.2.1 dX5_heightAt_32 (by decide) (fun c5 => ?_) (fun c5 => ?_)
      · have hF := ab_pos c5 hF
        exact w_X5_heightAt_44 X hr  S (lv_sub hl [0, 1, 2] rfl) hF
      · have hF := ab_neg c5 hF
        refine lv_iload X.1 X.2.1 dX5_heightAt_35 (lv_at hl 3 rfl) ?_
        refine lv_istore_n (i := 3) (lv' := [(3, .int v4), (0, va_rf v0), (1, .double v1), (4, .int v4)]) X.1 X.2.1 dX5_heightAt_37 rfl hl (by decide) (by simp [ab_cat, ab_cI, ab_cJ, ab_cD, ab_cF]) (fun ls hl => ?_)
        refine lv_iinc (v := v4 + 1) (lv' := [(4, .int (v4 + 1)), (3, .int v4), (0, va_rf v0), (1, .double v1)]) X.1 X.2.1 dX5_heightAt_38 hl (k := 3) rfl (by rfl) (by decide) (by simp [ab_cat, ab_cI, ab_cJ, ab_cD, ab_cF]) (fun ls hl => ?_)
        refine lv_goto (tgt := 14) X.1 X.2.1 dX5_heightAt_41 (by decide) ?_
        exact ih _ _ _ _ _ _ _ _ S (lv_sub hl [2, 3, 1, 0] rfl) hF
def f_X5_heightAt (this : Nat) (p0 : UInt64) (h : Hp) : Option (UInt64 × Hp) :=
  (getI h (some this) 5 3).bind fun x1 =>
  if ¬ x1 = 0 then
    f_X5_heightAt_14 fuelN (some this) p0 0 1 h
  else
    some (FP.dconst0, h)
theorem mi_X5_heightAt : ab_MI yX5_heightAt cX5_heightAt 6 (some .double) 1 := ⟨lc_yX5_heightAt, lz_RX5, by decide, by decide, by decide +kernel⟩
set_option maxHeartbeats 4000000 in
set_option maxRecDepth 100000 in
theorem c_X5_heightAt (l : Launch) (D : va_G) (cA : Nat → ClassId) (sz : Nat) {this : Nat} {p0 : UInt64} {h hh : Hp} {rr : UInt64} (hF : f_X5_heightAt this p0 h = some (rr, hh)) : ab_C l D cA sz yX5_heightAt cX5_heightAt 6 (some .double) 0 0 0 [.ref this, .double p0] h (some (.double rr)) hh := by
  refine Met.ofW (cc := cX5_heightAt) (maxL := 6) (ret := (some .double)) (by decide) rfl ?_
  intro p e s m args below meth c s₁ B hml hv
  obtain ⟨rfl, hT, hR⟩ := hv
  have X : ab_X p s m _ meth c cX5_heightAt 6 RX5 D cA sz := (ab_enter B hml hT hR).1
  have S := (ab_enter B hml hT hR).2
  have hr := B.returns
  obtain ⟨ls, hls, hl⟩ := ab_entry m [.ref this, .double p0] 6 (lv := [(0, .ref this), (1, .double p0)]) (by simp [lg_sl, ab_cat, ab_cI, ab_cJ, ab_cD, ab_cF, ab_cA]) (by simp [lv_args, ab_cat, ab_cI, ab_cJ, ab_cD, ab_cF, ab_cA])
  rw [hls]
  have hl : lv_has ls 6 [(0, va_rf (some this)), (1, .double p0)] := hl
  unfold f_X5_heightAt at hF
  show W p l e (ab_rm 0 0 0) s m _ below meth c s.heap [] 0 0 _ _
  refine ab_aload_n X dX5_heightAt_0 rfl (lv_at hl 0 rfl) ?_
  refine ab_getI X S hF fi_5_3 lf_X5_22 dX5_heightAt_1 (fun x1 hF => ?_)
  refine lv_if_ne (tgt := 9) X.1 X.2.1 dX5_heightAt_4 (by decide) (fun c2 => ?_) (fun c2 => ?_)
  · have hF := ab_pos c2 hF
    refine lv_iconst (v := 0) X.1 X.2.1 dX5_heightAt_9 (by decide) ?_
    refine lv_istore_n (i := 3) (lv' := [(3, .int 0), (0, va_rf (some this)), (1, .double p0)]) X.1 X.2.1 dX5_heightAt_10 rfl hl (by decide) (by simp [ab_cat, ab_cI, ab_cJ, ab_cD, ab_cF]) (fun ls hl => ?_)
    refine lv_iconst (v := 1) X.1 X.2.1 dX5_heightAt_11 (by decide) ?_
    refine lv_istore (lv' := [(4, .int 1), (3, .int 0), (0, va_rf (some this)), (1, .double p0)]) X.1 X.2.1 dX5_heightAt_12 hl (by decide) (by simp [ab_cat, ab_cI, ab_cJ, ab_cD, ab_cF]) (fun ls hl => ?_)
    exact w_X5_heightAt_14 X hr  fuelN _ _ _ _ _ _ _ _ S (lv_sub hl [2, 3, 1, 0] rfl) hF
  · have hF := ab_neg (fun q => q c2) hF
    refine lv_dconst0 X.1 X.2.1 dX5_heightAt_7 ?_
    exact ab_dret X S hr hF dX5_heightAt_8
def f_X6_copy_64  : Nat → Option Nat → Option Nat → Int32 → Hp → Option (Unit × Hp)
  | 0, _, _, _, _ => none
  | n + 1, v0, v1, v2, h => (getR h v0 6 9).bind fun x1 =>
    (alen h x1 14).bind fun x2 =>
    if x2 ≤ v2 then
      (getR h v0 6 10).bind fun x4 =>
      (getR h v1 6 10).bind fun x5 =>
      (ab_ck h x4 (3, 0)).bind fun a9 =>
      bnd (f_X3_copy a9 x5 h) fun _ h7 =>
      (getR h7 v0 6 11).bind fun x11 =>
      (getR h7 v1 6 11).bind fun x12 =>
      (ab_ck h7 x11 (3, 0)).bind fun a16 =>
      bnd (f_X3_copy a16 x12 h7) fun _ h14 =>
      (getD h14 v1 6 12).bind fun x18 =>
      (putD h14 v0 6 12 x18).bind fun h19 =>
      (getI h19 v1 6 13).bind fun x20 =>
      (putI h19 v0 6 13 x20).bind fun h21 =>
      some ((), h21)
    else
      (getR h v0 6 9).bind fun x22 =>
      (aldR h x22 14 v2).bind fun x23 =>
      (getR h v1 6 9).bind fun x24 =>
      (aldR h x24 14 v2).bind fun x25 =>
      (ab_ck h x23 (3, 0)).bind fun a29 =>
      bnd (f_X3_copy a29 x25 h) fun _ h27 =>
      f_X6_copy_64 n v0 v1 (v2 + 1) h27
set_option maxHeartbeats 4000000 in
set_option maxRecDepth 100000 in
theorem w_X6_copy_64 {p : Program} {l : Launch} {e : Env} {s : State} {m : MethodId} {args : Array Value} {below : List Frame} {meth : Method} {c : Code} {D : va_G} {cA : Nat → ClassId} {sz : Nat}  {hh : Hp}  (X : ab_X p s m args meth c cX6_copy 3 RX6 D cA sz) (hr : meth.sig.returnType = none)  (n : Nat) : ∀ (v0 : Option Nat) (v1 : Option Nat) (v2 : Int32) (h : Hp) (H : Heap) (locs : List Loc) (ls : Array Slot), ab_H D cA sz h s H locs → lv_has ls 3 [(0, va_rf v0), (1, va_rf v1), (2, .int v2)] → f_X6_copy_64 n v0 v1 v2 h = some ((), hh) → W p l e (ab_rm 1 0 0) s m args below meth c H locs 0 0 (MQ below (ab_Q D cA sz none hh) args s 0 0 (fun q => sz ≤ q)) (F0 m 64 ls []) := by
  induction n with
  | zero => intro v0 v1 v2 h H locs ls S hl hF; cases hF
  | succ n ih =>
    intro v0 v1 v2 h H locs ls S hl hF
    rw [f_X6_copy_64] at hF
    refine lv_iload_n X.1 X.2.1 dX6_copy_64 rfl (lv_at hl 2 rfl) ?_
    refine ab_aload_n X dX6_copy_65 rfl (lv_at hl 0 rfl) ?_
    refine ab_getR X S hF fi_6_9 lf_X6_30 dX6_copy_66 (fun x1 hF => ?_)
    refine ab_alen X S hF rfl (by decide) dX6_copy_69 (fun x2 hF => ?_)
    refine lv_icmp_ge (tgt := 94) X.1 X.2.1 dX6_copy_70 (by decide) (fun c3 => ?_) (fun c3 => ?_)
    · have hF := ab_pos c3 hF
      refine ab_aload_n X dX6_copy_94 rfl (lv_at hl 0 rfl) ?_
      refine ab_getR X S hF fi_6_10 lf_X6_34 dX6_copy_95 (fun x4 hF => ?_)
      refine ab_aload_n X dX6_copy_98 rfl (lv_at hl 1 rfl) ?_
      refine ab_getR X S hF fi_6_10 lf_X6_34 dX6_copy_99 (fun x5 hF => ?_)
      obtain ⟨a9, e10, hF⟩ := bind_out hF
      obtain ⟨x6, h7, e8, hF⟩ := bnd_out hF
      refine ab_callVv X S e10 (c_X3_copy l D cA sz e8) rfl (by decide) mi_X3_copy lm_X6_58 li_yX3_copy ls_yX3_copy (As := [va_rf x5]) (rest := []) rfl ⟨by decide, by decide⟩ ⟨by decide, by decide⟩ hl.1 rfl (by simp [ab_cat, ab_cI, ab_cJ, ab_cD, ab_cF]) dX6_copy_102 (fun H1 locs1 S => ?_)
      refine ab_aload_n X dX6_copy_105 rfl (lv_at hl 0 rfl) ?_
      refine ab_getR X S hF fi_6_11 lf_X6_37 dX6_copy_106 (fun x11 hF => ?_)
      refine ab_aload_n X dX6_copy_109 rfl (lv_at hl 1 rfl) ?_
      refine ab_getR X S hF fi_6_11 lf_X6_37 dX6_copy_110 (fun x12 hF => ?_)
      obtain ⟨a16, e17, hF⟩ := bind_out hF
      obtain ⟨x13, h14, e15, hF⟩ := bnd_out hF
      refine ab_callVv X S e17 (c_X3_copy l D cA sz e15) rfl (by decide) mi_X3_copy lm_X6_58 li_yX3_copy ls_yX3_copy (As := [va_rf x12]) (rest := []) rfl ⟨by decide, by decide⟩ ⟨by decide, by decide⟩ hl.1 rfl (by simp [ab_cat, ab_cI, ab_cJ, ab_cD, ab_cF]) dX6_copy_113 (fun H1 locs1 S => ?_)
      refine ab_aload_n X dX6_copy_116 rfl (lv_at hl 0 rfl) ?_
      refine ab_aload_n X dX6_copy_117 rfl (lv_at hl 1 rfl) ?_
      refine ab_getD X S hF fi_6_12 lf_X6_62 dX6_copy_118 (fun x18 hF => ?_)
      refine ab_putD X S hF fi_6_12 ci_6 (Or.inl rfl) rfl lf_X6_62 dX6_copy_121 (fun h19 H1 locs1 hF S => ?_)
      refine ab_aload_n X dX6_copy_124 rfl (lv_at hl 0 rfl) ?_
      refine ab_aload_n X dX6_copy_125 rfl (lv_at hl 1 rfl) ?_
      refine ab_getI X S hF fi_6_13 lf_X6_65 dX6_copy_126 (fun x20 hF => ?_)
      refine ab_putI X S hF fi_6_13 ci_6 (Or.inl rfl) rfl lf_X6_65 dX6_copy_129 (fun h21 H1 locs1 hF S => ?_)
      exact ab_vret X S hr hF dX6_copy_132
    · have hF := ab_neg c3 hF
      refine ab_aload_n X dX6_copy_73 rfl (lv_at hl 0 rfl) ?_
      refine ab_getR X S hF fi_6_9 lf_X6_30 dX6_copy_74 (fun x22 hF => ?_)
      refine lv_iload_n X.1 X.2.1 dX6_copy_77 rfl (lv_at hl 2 rfl) ?_
      refine ab_aldR X S hF rfl (by decide) dX6_copy_78 (fun x23 hF => ?_)
      refine ab_aload_n X dX6_copy_79 rfl (lv_at hl 1 rfl) ?_
      refine ab_getR X S hF fi_6_9 lf_X6_30 dX6_copy_80 (fun x24 hF => ?_)
      refine lv_iload_n X.1 X.2.1 dX6_copy_83 rfl (lv_at hl 2 rfl) ?_
      refine ab_aldR X S hF rfl (by decide) dX6_copy_84 (fun x25 hF => ?_)
      obtain ⟨a29, e30, hF⟩ := bind_out hF
      obtain ⟨x26, h27, e28, hF⟩ := bnd_out hF
      refine ab_callVv X S e30 (c_X3_copy l D cA sz e28) rfl (by decide) mi_X3_copy lm_X6_58 li_yX3_copy ls_yX3_copy (As := [va_rf x25]) (rest := []) rfl ⟨by decide, by decide⟩ ⟨by decide, by decide⟩ hl.1 rfl (by simp [ab_cat, ab_cI, ab_cJ, ab_cD, ab_cF]) dX6_copy_85 (fun H1 locs1 S => ?_)
      refine lv_iinc (v := v2 + 1) (lv' := [(2, .int (v2 + 1)), (0, va_rf v0), (1, va_rf v1)]) X.1 X.2.1 dX6_copy_88 hl (k := 2) rfl (by rfl) (by decide) (by simp [ab_cat, ab_cI, ab_cJ, ab_cD, ab_cF]) (fun ls hl => ?_)
      refine lv_goto (tgt := 64) X.1 X.2.1 dX6_copy_91 (by decide) ?_
      exact ih _ _ _ _ _ _ _ S (lv_sub hl [1, 2, 0] rfl) hF
def f_X6_copy (this : Nat) (p0 : Option Nat) (h : Hp) : Option (Unit × Hp) :=
  (getR h p0 6 1).bind fun x1 =>
  (putR h (some this) 6 1 x1).bind fun h2 =>
  (getI h2 p0 6 2).bind fun x3 =>
  (putI h2 (some this) 6 2 x3).bind fun h4 =>
  (getD h4 p0 6 3).bind fun x5 =>
  (putD h4 (some this) 6 3 x5).bind fun h6 =>
  (getD h6 p0 6 4).bind fun x7 =>
  (putD h6 (some this) 6 4 x7).bind fun h8 =>
  (getD h8 p0 6 5).bind fun x9 =>
  (putD h8 (some this) 6 5 x9).bind fun h10 =>
  (getR h10 (some this) 6 6).bind fun x11 =>
  (getR h10 p0 6 6).bind fun x12 =>
  (ab_ck h10 x11 (3, 0)).bind fun a16 =>
  bnd (f_X3_copy a16 x12 h10) fun _ h14 =>
  (getR h14 (some this) 6 8).bind fun x18 =>
  (getR h14 p0 6 8).bind fun x19 =>
  (ab_ck h14 x18 (3, 0)).bind fun a23 =>
  bnd (f_X3_copy a23 x19 h14) fun _ h21 =>
  f_X6_copy_64 fuelN (some this) p0 0 h21
theorem mi_X6_copy : ab_MI yX6_copy cX6_copy 3 none 1 := ⟨lc_yX6_copy, lz_RX6, by decide, by decide, by decide +kernel⟩
set_option maxHeartbeats 4000000 in
set_option maxRecDepth 100000 in
theorem c_X6_copy (l : Launch) (D : va_G) (cA : Nat → ClassId) (sz : Nat) {this : Nat} {p0 : Option Nat} {h hh : Hp}  (hF : f_X6_copy this p0 h = some ((), hh)) : ab_C l D cA sz yX6_copy cX6_copy 3 none 1 0 0 [.ref this, va_rf p0] h none hh := by
  refine Met.ofW (cc := cX6_copy) (maxL := 3) (ret := none) (by decide) rfl ?_
  intro p e s m args below meth c s₁ B hml hv
  obtain ⟨rfl, hT, hR⟩ := hv
  have X : ab_X p s m _ meth c cX6_copy 3 RX6 D cA sz := (ab_enter B hml hT hR).1
  have S := (ab_enter B hml hT hR).2
  have hr := B.returns
  obtain ⟨ls, hls, hl⟩ := ab_entry m [.ref this, va_rf p0] 3 (lv := [(0, .ref this), (1, va_rf p0)]) (by simp [lg_sl, ab_cat, ab_cI, ab_cJ, ab_cD, ab_cF, ab_cA]) (by simp [lv_args, ab_cat, ab_cI, ab_cJ, ab_cD, ab_cF, ab_cA])
  rw [hls]
  have hl : lv_has ls 3 [(0, va_rf (some this)), (1, va_rf p0)] := hl
  unfold f_X6_copy at hF
  show W p l e (ab_rm 1 0 0) s m _ below meth c s.heap [] 0 0 _ _
  refine ab_aload_n X dX6_copy_0 rfl (lv_at hl 0 rfl) ?_
  refine ab_aload_n X dX6_copy_1 rfl (lv_at hl 1 rfl) ?_
  refine ab_getR X S hF fi_6_1 lf_X6_40 dX6_copy_2 (fun x1 hF => ?_)
  refine ab_putR X S hF fi_6_1 ci_6 (Or.inl rfl) (fun q => by cases q <;> rfl) (fun q => by cases q <;> rfl) lf_X6_40 dX6_copy_5 (fun h2 H1 locs1 hF S => ?_)
  refine ab_aload_n X dX6_copy_8 rfl (lv_at hl 0 rfl) ?_
  refine ab_aload_n X dX6_copy_9 rfl (lv_at hl 1 rfl) ?_
  refine ab_getI X S hF fi_6_2 lf_X6_44 dX6_copy_10 (fun x3 hF => ?_)
  refine ab_putI X S hF fi_6_2 ci_6 (Or.inl rfl) rfl lf_X6_44 dX6_copy_13 (fun h4 H1 locs1 hF S => ?_)
  refine ab_aload_n X dX6_copy_16 rfl (lv_at hl 0 rfl) ?_
  refine ab_aload_n X dX6_copy_17 rfl (lv_at hl 1 rfl) ?_
  refine ab_getD X S hF fi_6_3 lf_X6_48 dX6_copy_18 (fun x5 hF => ?_)
  refine ab_putD X S hF fi_6_3 ci_6 (Or.inl rfl) rfl lf_X6_48 dX6_copy_21 (fun h6 H1 locs1 hF S => ?_)
  refine ab_aload_n X dX6_copy_24 rfl (lv_at hl 0 rfl) ?_
  refine ab_aload_n X dX6_copy_25 rfl (lv_at hl 1 rfl) ?_
  refine ab_getD X S hF fi_6_4 lf_X6_52 dX6_copy_26 (fun x7 hF => ?_)
  refine ab_putD X S hF fi_6_4 ci_6 (Or.inl rfl) rfl lf_X6_52 dX6_copy_29 (fun h8 H1 locs1 hF S => ?_)
  refine ab_aload_n X dX6_copy_32 rfl (lv_at hl 0 rfl) ?_
  refine ab_aload_n X dX6_copy_33 rfl (lv_at hl 1 rfl) ?_
  refine ab_getD X S hF fi_6_5 lf_X6_55 dX6_copy_34 (fun x9 hF => ?_)
  refine ab_putD X S hF fi_6_5 ci_6 (Or.inl rfl) rfl lf_X6_55 dX6_copy_37 (fun h10 H1 locs1 hF S => ?_)
  refine ab_aload_n X dX6_copy_40 rfl (lv_at hl 0 rfl) ?_
  refine ab_getR X S hF fi_6_6 lf_X6_20 dX6_copy_41 (fun x11 hF => ?_)
  refine ab_aload_n X dX6_copy_44 rfl (lv_at hl 1 rfl) ?_
  refine ab_getR X S hF fi_6_6 lf_X6_20 dX6_copy_45 (fun x12 hF => ?_)
  obtain ⟨a16, e17, hF⟩ := bind_out hF
  obtain ⟨x13, h14, e15, hF⟩ := bnd_out hF
  refine ab_callVv X S e17 (c_X3_copy l D cA sz e15) rfl (by decide) mi_X3_copy lm_X6_58 li_yX3_copy ls_yX3_copy (As := [va_rf x12]) (rest := []) rfl ⟨by decide, by decide⟩ ⟨by decide, by decide⟩ hl.1 rfl (by simp [ab_cat, ab_cI, ab_cJ, ab_cD, ab_cF]) dX6_copy_48 (fun H1 locs1 S => ?_)
  refine ab_aload_n X dX6_copy_51 rfl (lv_at hl 0 rfl) ?_
  refine ab_getR X S hF fi_6_8 lf_X6_27 dX6_copy_52 (fun x18 hF => ?_)
  refine ab_aload_n X dX6_copy_55 rfl (lv_at hl 1 rfl) ?_
  refine ab_getR X S hF fi_6_8 lf_X6_27 dX6_copy_56 (fun x19 hF => ?_)
  obtain ⟨a23, e24, hF⟩ := bind_out hF
  obtain ⟨x20, h21, e22, hF⟩ := bnd_out hF
  refine ab_callVv X S e24 (c_X3_copy l D cA sz e22) rfl (by decide) mi_X3_copy lm_X6_58 li_yX3_copy ls_yX3_copy (As := [va_rf x19]) (rest := []) rfl ⟨by decide, by decide⟩ ⟨by decide, by decide⟩ hl.1 rfl (by simp [ab_cat, ab_cI, ab_cJ, ab_cD, ab_cF]) dX6_copy_59 (fun H1 locs1 S => ?_)
  refine lv_iconst (v := 0) X.1 X.2.1 dX6_copy_62 (by decide) ?_
  refine lv_istore_n (i := 2) (lv' := [(2, .int 0), (0, va_rf (some this)), (1, va_rf p0)]) X.1 X.2.1 dX6_copy_63 rfl hl (by decide) (by simp [ab_cat, ab_cI, ab_cJ, ab_cD, ab_cF]) (fun ls hl => ?_)
  exact w_X6_copy_64 X hr  fuelN _ _ _ _ _ _ _ S (lv_sub hl [1, 2, 0] rfl) hF
def f_X6_arrive (this : Nat) (p0 : Option Nat) (p1 : Int32) (p2 : Option Nat) (p3 : UInt64) (p4 : UInt64) (h : Hp) : Option (Unit × Hp) :=
  (getR h (some this) 6 0).bind fun x1 =>
  (ab_ck h x1 (2, 0)).bind fun a5 =>
  bnd (f_X2_product a5 p3 p4 h) fun x2 h3 =>
  (getR h3 (some this) 6 0).bind fun x7 =>
  (getR h3 (some this) 6 0).bind fun x8 =>
  (ab_ck h3 x8 (2, 0)).bind fun a12 =>
  bnd (f_X2_read a12 p2 p1 h3) fun x9 h10 =>
  (ab_ck h10 x7 (2, 0)).bind fun a17 =>
  bnd (f_X2_sum a17 x9 x2 h10) fun x14 h15 =>
  (getR h15 (some this) 6 0).bind fun x19 =>
  (getI h15 x19 2 1).bind fun x20 =>
  (getR h15 (some this) 6 1).bind fun x21 =>
  (ab_ck h15 x21 (1, 0)).bind fun a25 =>
  bnd (f_X1_isNarrow a25 p1 h15) fun x22 h23 =>
  (ab_ck h23 p0 (3, 0)).bind fun a30 =>
  bnd (f_X3_put a30 p1 x14 x20 x22 h23) fun _ h28 =>
  some ((), h28)
theorem mi_X6_arrive : ab_MI yX6_arrive cX6_arrive 12 none 5 := ⟨lc_yX6_arrive, lz_RX6, by decide, by decide, by decide +kernel⟩
set_option maxHeartbeats 4000000 in
set_option maxRecDepth 100000 in
theorem c_X6_arrive (l : Launch) (D : va_G) (cA : Nat → ClassId) (sz : Nat) {this : Nat} {p0 : Option Nat} {p1 : Int32} {p2 : Option Nat} {p3 : UInt64} {p4 : UInt64} {h hh : Hp}  (hF : f_X6_arrive this p0 p1 p2 p3 p4 h = some ((), hh)) : ab_C l D cA sz yX6_arrive cX6_arrive 12 none 1 0 0 [.ref this, va_rf p0, .int p1, va_rf p2, .double p3, .double p4] h none hh := by
  refine Met.ofW (cc := cX6_arrive) (maxL := 12) (ret := none) (by decide) rfl ?_
  intro p e s m args below meth c s₁ B hml hv
  obtain ⟨rfl, hT, hR⟩ := hv
  have X : ab_X p s m _ meth c cX6_arrive 12 RX6 D cA sz := (ab_enter B hml hT hR).1
  have S := (ab_enter B hml hT hR).2
  have hr := B.returns
  obtain ⟨ls, hls, hl⟩ := ab_entry m [.ref this, va_rf p0, .int p1, va_rf p2, .double p3, .double p4] 12 (lv := [(0, .ref this), (1, va_rf p0), (2, .int p1), (3, va_rf p2), (4, .double p3), (6, .double p4)]) (by simp [lg_sl, ab_cat, ab_cI, ab_cJ, ab_cD, ab_cF, ab_cA]) (by simp [lv_args, ab_cat, ab_cI, ab_cJ, ab_cD, ab_cF, ab_cA])
  rw [hls]
  have hl : lv_has ls 12 [(0, va_rf (some this)), (1, va_rf p0), (2, .int p1), (3, va_rf p2), (4, .double p3), (6, .double p4)] := hl
  unfold f_X6_arrive at hF
  show W p l e (ab_rm 1 0 0) s m _ below meth c s.heap [] 0 0 _ _
  refine ab_aload_n X dX6_arrive_0 rfl (lv_at hl 0 rfl) ?_
  refine ab_getR X S hF fi_6_0 lf_X6_9 dX6_arrive_1 (fun x1 hF => ?_)
  refine lv_dload X.1 X.2.1 dX6_arrive_4 (lv_at hl 4 rfl) ?_
  refine lv_dload X.1 X.2.1 dX6_arrive_6 (lv_at hl 5 rfl) ?_
  obtain ⟨a5, e6, hF⟩ := bind_out hF
  obtain ⟨x2, h3, e4, hF⟩ := bnd_out hF
  refine ab_callVd X S e6 (c_X2_product l D cA sz e4) rfl (by decide) mi_X2_product lm_X6_119 li_yX2_product ls_yX2_product (As := [.double p3, .double p4]) (rest := []) rfl ⟨by decide, by decide⟩ ⟨by decide, by decide⟩ hl.1 rfl (by simp [ab_cat, ab_cI, ab_cJ, ab_cD, ab_cF]) dX6_arrive_8 (fun H1 locs1 S => ?_)
  refine lv_dstore (lv' := [(8, .double x2), (0, va_rf (some this)), (1, va_rf p0), (2, .int p1), (3, va_rf p2), (4, .double p3), (6, .double p4)]) X.1 X.2.1 dX6_arrive_11 hl (by decide) (by simp [ab_cat, ab_cI, ab_cJ, ab_cD, ab_cF]) (fun ls hl => ?_)
  refine ab_aload_n X dX6_arrive_13 rfl (lv_at hl 1 rfl) ?_
  refine ab_getR X S hF fi_6_0 lf_X6_9 dX6_arrive_14 (fun x7 hF => ?_)
  refine ab_aload_n X dX6_arrive_17 rfl (lv_at hl 1 rfl) ?_
  refine ab_getR X S hF fi_6_0 lf_X6_9 dX6_arrive_18 (fun x8 hF => ?_)
  refine ab_aload_n X dX6_arrive_21 rfl (lv_at hl 4 rfl) ?_
  refine lv_iload_n X.1 X.2.1 dX6_arrive_22 rfl (lv_at hl 3 rfl) ?_
  obtain ⟨a12, e13, hF⟩ := bind_out hF
  obtain ⟨x9, h10, e11, hF⟩ := bnd_out hF
  refine ab_callVd X S e13 (c_X2_read l D cA sz e11) rfl (by decide) mi_X2_read lm_X6_123 li_yX2_read ls_yX2_read (As := [va_rf p2, .int p1]) (rest := [va_rf x7]) rfl ⟨by decide, by decide⟩ ⟨by decide, by decide⟩ hl.1 rfl (by simp [ab_cat, ab_cI, ab_cJ, ab_cD, ab_cF]) dX6_arrive_23 (fun H1 locs1 S => ?_)
  refine lv_dload X.1 X.2.1 dX6_arrive_26 (lv_at hl 0 rfl) ?_
  obtain ⟨a17, e18, hF⟩ := bind_out hF
  obtain ⟨x14, h15, e16, hF⟩ := bnd_out hF
  refine ab_callVd X S e18 (c_X2_sum l D cA sz e16) rfl (by decide) mi_X2_sum lm_X6_127 li_yX2_sum ls_yX2_sum (As := [.double x9, .double x2]) (rest := []) rfl ⟨by decide, by decide⟩ ⟨by decide, by decide⟩ hl.1 rfl (by simp [ab_cat, ab_cI, ab_cJ, ab_cD, ab_cF]) dX6_arrive_28 (fun H1 locs1 S => ?_)
  refine lv_dstore (lv' := [(10, .double x14), (8, .double x2), (0, va_rf (some this)), (1, va_rf p0), (2, .int p1), (3, va_rf p2), (4, .double p3), (6, .double p4)]) X.1 X.2.1 dX6_arrive_31 hl (by decide) (by simp [ab_cat, ab_cI, ab_cJ, ab_cD, ab_cF]) (fun ls hl => ?_)
  refine ab_aload_n X dX6_arrive_33 rfl (lv_at hl 3 rfl) ?_
  refine lv_iload_n X.1 X.2.1 dX6_arrive_34 rfl (lv_at hl 4 rfl) ?_
  refine lv_dload X.1 X.2.1 dX6_arrive_35 (lv_at hl 0 rfl) ?_
  refine ab_aload_n X dX6_arrive_37 rfl (lv_at hl 2 rfl) ?_
  refine ab_getR X S hF fi_6_0 lf_X6_9 dX6_arrive_38 (fun x19 hF => ?_)
  refine ab_getI X S hF fi_2_1 lf_X6_130 dX6_arrive_41 (fun x20 hF => ?_)
  refine ab_aload_n X dX6_arrive_44 rfl (lv_at hl 2 rfl) ?_
  refine ab_getR X S hF fi_6_1 lf_X6_40 dX6_arrive_45 (fun x21 hF => ?_)
  refine lv_iload_n X.1 X.2.1 dX6_arrive_48 rfl (lv_at hl 4 rfl) ?_
  obtain ⟨a25, e26, hF⟩ := bind_out hF
  obtain ⟨x22, h23, e24, hF⟩ := bnd_out hF
  refine ab_callVi X S e26 (c_X1_isNarrow l D cA sz e24) rfl (by decide) mi_X1_isNarrow lm_X6_134 li_yX1_isNarrow ls_yX1_isNarrow (As := [.int p1]) (rest := [.int x20, .double x14, .int p1, va_rf p0]) rfl ⟨by decide, by decide⟩ ⟨by decide, by decide⟩ hl.1 rfl (by simp [ab_cat, ab_cI, ab_cJ, ab_cD, ab_cF]) dX6_arrive_49 (fun H1 locs1 S => ?_)
  obtain ⟨a30, e31, hF⟩ := bind_out hF
  obtain ⟨x27, h28, e29, hF⟩ := bnd_out hF
  refine ab_callVv X S e31 (c_X3_put l D cA sz e29) rfl (by decide) mi_X3_put lm_X6_137 li_yX3_put ls_yX3_put (As := [.int p1, .double x14, .int x20, .int x22]) (rest := []) rfl ⟨by decide, by decide⟩ ⟨by decide, by decide⟩ hl.1 rfl (by simp [ab_cat, ab_cI, ab_cJ, ab_cD, ab_cF]) dX6_arrive_52 (fun H1 locs1 S => ?_)
  exact ab_vret X S hr hF dX6_arrive_55
def f_X6_move_3  : Nat → Option Nat → Option Nat → UInt64 → Int32 → Int32 → Hp → Option (Unit × Hp)
  | 0, _, _, _, _, _, _ => none
  | n + 1, v0, v1, v2, v4, v5, h => (getR h v0 6 1).bind fun x1 =>
    (getI h x1 1 1).bind fun x2 =>
    if x2 ≤ v5 then
      some ((), h)
    else
      (getR h v0 6 0).bind fun x4 =>
      (ab_ck h x4 (2, 0)).bind fun a8 =>
      bnd (f_X2_begin a8 h) fun _ h6 =>
      (getR h6 v0 6 6).bind fun x10 =>
      (getR h6 v0 6 9).bind fun x11 =>
      (aldR h6 x11 14 v4).bind fun x12 =>
      (getR h6 x12 3 0).bind fun x13 =>
      (aldD h6 x13 v5).bind fun x14 =>
      (ab_ck h6 v0 (6, 0)).bind fun a18 =>
      bnd (f_X6_arrive a18 v1 v5 x10 v2 x14 h6) fun _ h16 =>
      f_X6_move_3 n v0 v1 v2 v4 (v5 + 1) h16
set_option maxHeartbeats 4000000 in
set_option maxRecDepth 100000 in
theorem w_X6_move_3 {p : Program} {l : Launch} {e : Env} {s : State} {m : MethodId} {args : Array Value} {below : List Frame} {meth : Method} {c : Code} {D : va_G} {cA : Nat → ClassId} {sz : Nat}  {hh : Hp}  (X : ab_X p s m args meth c cX6_move 6 RX6 D cA sz) (hr : meth.sig.returnType = none)  (n : Nat) : ∀ (v0 : Option Nat) (v1 : Option Nat) (v2 : UInt64) (v4 : Int32) (v5 : Int32) (h : Hp) (H : Heap) (locs : List Loc) (ls : Array Slot), ab_H D cA sz h s H locs → lv_has ls 6 [(0, va_rf v0), (1, va_rf v1), (2, .double v2), (4, .int v4), (5, .int v5)] → f_X6_move_3 n v0 v1 v2 v4 v5 h = some ((), hh) → W p l e (ab_rm 2 0 0) s m args below meth c H locs 0 0 (MQ below (ab_Q D cA sz none hh) args s 0 0 (fun q => sz ≤ q)) (F0 m 3 ls []) := by
  induction n with
  | zero => intro v0 v1 v2 v4 v5 h H locs ls S hl hF; cases hF
  | succ n ih =>
    intro v0 v1 v2 v4 v5 h H locs ls S hl hF
    rw [f_X6_move_3] at hF
    refine lv_iload X.1 X.2.1 dX6_move_3 (lv_at hl 4 rfl) ?_
    refine ab_aload_n X dX6_move_5 rfl (lv_at hl 0 rfl) ?_
    refine ab_getR X S hF fi_6_1 lf_X6_40 dX6_move_6 (fun x1 hF => ?_)
    refine ab_getI X S hF fi_1_1 lf_X6_95 dX6_move_9 (fun x2 hF => ?_)
    refine lv_icmp_ge (tgt := 53) X.1 X.2.1 dX6_move_12 (by decide) (fun c3 => ?_) (fun c3 => ?_)
    · have hF := ab_pos c3 hF
      exact ab_vret X S hr hF dX6_move_53
    · have hF := ab_neg c3 hF
      refine ab_aload_n X dX6_move_15 rfl (lv_at hl 0 rfl) ?_
      refine ab_getR X S hF fi_6_0 lf_X6_9 dX6_move_16 (fun x4 hF => ?_)
      obtain ⟨a8, e9, hF⟩ := bind_out hF
      obtain ⟨x5, h6, e7, hF⟩ := bnd_out hF
      refine ab_callVv X S e9 (c_X2_begin l D cA sz e7) rfl (by decide) mi_X2_begin lm_X6_141 li_yX2_begin ls_yX2_begin (As := []) (rest := []) rfl ⟨by decide, by decide⟩ ⟨by decide, by decide⟩ hl.1 rfl (by simp [ab_cat, ab_cI, ab_cJ, ab_cD, ab_cF]) dX6_move_19 (fun H1 locs1 S => ?_)
      refine ab_aload_n X dX6_move_22 rfl (lv_at hl 0 rfl) ?_
      refine ab_aload_n X dX6_move_23 rfl (lv_at hl 1 rfl) ?_
      refine lv_iload X.1 X.2.1 dX6_move_24 (lv_at hl 4 rfl) ?_
      refine ab_aload_n X dX6_move_26 rfl (lv_at hl 0 rfl) ?_
      refine ab_getR X S hF fi_6_6 lf_X6_20 dX6_move_27 (fun x10 hF => ?_)
      refine lv_dload_n X.1 X.2.1 dX6_move_30 rfl (lv_at hl 2 rfl) ?_
      refine ab_aload_n X dX6_move_31 rfl (lv_at hl 0 rfl) ?_
      refine ab_getR X S hF fi_6_9 lf_X6_30 dX6_move_32 (fun x11 hF => ?_)
      refine lv_iload X.1 X.2.1 dX6_move_35 (lv_at hl 3 rfl) ?_
      refine ab_aldR X S hF rfl (by decide) dX6_move_37 (fun x12 hF => ?_)
      refine ab_getR X S hF fi_3_0 lf_X6_144 dX6_move_38 (fun x13 hF => ?_)
      refine lv_iload X.1 X.2.1 dX6_move_41 (lv_at hl 4 rfl) ?_
      refine ab_aldD X S hF dX6_move_43 (fun x14 hF => ?_)
      obtain ⟨a18, e19, hF⟩ := bind_out hF
      obtain ⟨x15, h16, e17, hF⟩ := bnd_out hF
      refine ab_callVv X S e19 (c_X6_arrive l D cA sz e17) rfl (by decide) mi_X6_arrive lm_X6_148 li_yX6_arrive ls_yX6_arrive (As := [va_rf v1, .int v5, va_rf x10, .double v2, .double x14]) (rest := []) rfl ⟨by decide, by decide⟩ ⟨by decide, by decide⟩ hl.1 rfl (by simp [ab_cat, ab_cI, ab_cJ, ab_cD, ab_cF]) dX6_move_44 (fun H1 locs1 S => ?_)
      refine lv_iinc (v := v5 + 1) (lv' := [(5, .int (v5 + 1)), (0, va_rf v0), (1, va_rf v1), (2, .double v2), (4, .int v4)]) X.1 X.2.1 dX6_move_47 hl (k := 4) rfl (by rfl) (by decide) (by simp [ab_cat, ab_cI, ab_cJ, ab_cD, ab_cF]) (fun ls hl => ?_)
      refine lv_goto (tgt := 3) X.1 X.2.1 dX6_move_50 (by decide) ?_
      exact ih _ _ _ _ _ _ _ _ _ S (lv_sub hl [1, 2, 3, 4, 0] rfl) hF
def f_X6_move (this : Nat) (p0 : Option Nat) (p1 : UInt64) (p2 : Int32) (h : Hp) : Option (Unit × Hp) :=
  f_X6_move_3 fuelN (some this) p0 p1 p2 0 h
theorem mi_X6_move : ab_MI yX6_move cX6_move 6 none 3 := ⟨lc_yX6_move, lz_RX6, by decide, by decide, by decide +kernel⟩
set_option maxHeartbeats 4000000 in
set_option maxRecDepth 100000 in
theorem c_X6_move (l : Launch) (D : va_G) (cA : Nat → ClassId) (sz : Nat) {this : Nat} {p0 : Option Nat} {p1 : UInt64} {p2 : Int32} {h hh : Hp}  (hF : f_X6_move this p0 p1 p2 h = some ((), hh)) : ab_C l D cA sz yX6_move cX6_move 6 none 2 0 0 [.ref this, va_rf p0, .double p1, .int p2] h none hh := by
  refine Met.ofW (cc := cX6_move) (maxL := 6) (ret := none) (by decide) rfl ?_
  intro p e s m args below meth c s₁ B hml hv
  obtain ⟨rfl, hT, hR⟩ := hv
  have X : ab_X p s m _ meth c cX6_move 6 RX6 D cA sz := (ab_enter B hml hT hR).1
  have S := (ab_enter B hml hT hR).2
  have hr := B.returns
  obtain ⟨ls, hls, hl⟩ := ab_entry m [.ref this, va_rf p0, .double p1, .int p2] 6 (lv := [(0, .ref this), (1, va_rf p0), (2, .double p1), (4, .int p2)]) (by simp [lg_sl, ab_cat, ab_cI, ab_cJ, ab_cD, ab_cF, ab_cA]) (by simp [lv_args, ab_cat, ab_cI, ab_cJ, ab_cD, ab_cF, ab_cA])
  rw [hls]
  have hl : lv_has ls 6 [(0, va_rf (some this)), (1, va_rf p0), (2, .double p1), (4, .int p2)] := hl
  unfold f_X6_move at hF
  show W p l e (ab_rm 2 0 0) s m _ below meth c s.heap [] 0 0 _ _
  refine lv_iconst (v := 0) X.1 X.2.1 dX6_move_0 (by decide) ?_
  refine lv_istore (lv' := [(5, .int 0), (0, va_rf (some this)), (1, va_rf p0), (2, .double p1), (4, .int p2)]) X.1 X.2.1 dX6_move_1 hl (by decide) (by simp [ab_cat, ab_cI, ab_cJ, ab_cD, ab_cF]) (fun ls hl => ?_)
  exact w_X6_move_3 X hr  fuelN _ _ _ _ _ _ _ _ _ S (lv_sub hl [1, 2, 3, 4, 0] rfl) hF
def f_X6_unlikeCount_64 (k_4 : Option Nat → Int32 → Int32 → Hp → Option (Int32 × Hp)) (v0 : Option Nat) (v1 : Int32) (v2 : Int32) (h : Hp) : Option (Int32 × Hp) :=
  k_4 v0 v1 (v2 + 1) h
set_option maxHeartbeats 4000000 in
set_option maxRecDepth 100000 in
theorem w_X6_unlikeCount_64 {p : Program} {l : Launch} {e : Env} {s : State} {m : MethodId} {args : Array Value} {below : List Frame} {meth : Method} {c : Code} {D : va_G} {cA : Nat → ClassId} {sz : Nat} {rr : Int32} {hh : Hp} {k_4 : Option Nat → Int32 → Int32 → Hp → Option (Int32 × Hp)} (X : ab_X p s m args meth c cX6_unlikeCount 3 RX6 D cA sz) (hr : meth.sig.returnType = (some .int)) (hk_4 : ∀ (v0 : Option Nat) (v1 : Int32) (v2 : Int32) (h : Hp) (H : Heap) (locs : List Loc) (ls : Array Slot), ab_H D cA sz h s H locs → lv_has ls 3 [(0, va_rf v0), (1, .int v1), (2, .int v2)] → k_4 v0 v1 v2 h = some (rr, hh) → W p l e (ab_rm 0 0 0) s m args below meth c H locs 0 0 (MQ below (ab_Q D cA sz (some (.int rr)) hh) args s 0 0 (fun q => sz ≤ q)) (F0 m 4 ls [])) {H : Heap} {locs : List Loc} {ls : Array Slot} {v0 : Option Nat} {v1 : Int32} {v2 : Int32} {h : Hp} (S : ab_H D cA sz h s H locs) (hl : lv_has ls 3 [(0, va_rf v0), (1, .int v1), (2, .int v2)]) (hF : f_X6_unlikeCount_64 k_4 v0 v1 v2 h = some (rr, hh)) : W p l e (ab_rm 0 0 0) s m args below meth c H locs 0 0 (MQ below (ab_Q D cA sz (some (.int rr)) hh) args s 0 0 (fun q => sz ≤ q)) (F0 m 64 ls []) := by
  unfold f_X6_unlikeCount_64 at hF
  refine lv_iinc (v := v2 + 1) (lv' := [(2, .int (v2 + 1)), (0, va_rf v0), (1, .int v1)]) X.1 X.2.1 dX6_unlikeCount_64 hl (k := 2) rfl (by rfl) (by decide) (by simp [ab_cat, ab_cI, ab_cJ, ab_cD, ab_cF]) (fun ls hl => ?_)
  refine lv_goto (tgt := 4) X.1 X.2.1 dX6_unlikeCount_67 (by decide) ?_
  exact hk_4 _ _ _ _ _ _ _ S (lv_sub hl [1, 2, 0] rfl) hF
def f_X6_unlikeCount_61 (k_4 : Option Nat → Int32 → Int32 → Hp → Option (Int32 × Hp)) (v0 : Option Nat) (v1 : Int32) (v2 : Int32) (h : Hp) : Option (Int32 × Hp) :=
  f_X6_unlikeCount_64 k_4 v0 (v1 + 1) v2 h
set_option maxHeartbeats 4000000 in
set_option maxRecDepth 100000 in
theorem w_X6_unlikeCount_61 {p : Program} {l : Launch} {e : Env} {s : State} {m : MethodId} {args : Array Value} {below : List Frame} {meth : Method} {c : Code} {D : va_G} {cA : Nat → ClassId} {sz : Nat} {rr : Int32} {hh : Hp} {k_4 : Option Nat → Int32 → Int32 → Hp → Option (Int32 × Hp)} (X : ab_X p s m args meth c cX6_unlikeCount 3 RX6 D cA sz) (hr : meth.sig.returnType = (some .int)) (hk_4 : ∀ (v0 : Option Nat) (v1 : Int32) (v2 : Int32) (h : Hp) (H : Heap) (locs : List Loc) (ls : Array Slot), ab_H D cA sz h s H locs → lv_has ls 3 [(0, va_rf v0), (1, .int v1), (2, .int v2)] → k_4 v0 v1 v2 h = some (rr, hh) → W p l e (ab_rm 0 0 0) s m args below meth c H locs 0 0 (MQ below (ab_Q D cA sz (some (.int rr)) hh) args s 0 0 (fun q => sz ≤ q)) (F0 m 4 ls [])) {H : Heap} {locs : List Loc} {ls : Array Slot} {v0 : Option Nat} {v1 : Int32} {v2 : Int32} {h : Hp} (S : ab_H D cA sz h s H locs) (hl : lv_has ls 3 [(0, va_rf v0), (1, .int v1), (2, .int v2)]) (hF : f_X6_unlikeCount_61 k_4 v0 v1 v2 h = some (rr, hh)) : W p l e (ab_rm 0 0 0) s m args below meth c H locs 0 0 (MQ below (ab_Q D cA sz (some (.int rr)) hh) args s 0 0 (fun q => sz ≤ q)) (F0 m 61 ls []) := by
  unfold f_X6_unlikeCount_61 at hF
  refine lv_iinc (v := v1 + 1) (lv' := [(1, .int (v1 + 1)), (0, va_rf v0), (2, .int v2)]) X.1 X.2.1 dX6_unlikeCount_61 hl (k := 1) rfl (by rfl) (by decide) (by simp [ab_cat, ab_cI, ab_cJ, ab_cD, ab_cF]) (fun ls hl => ?_)
  exact w_X6_unlikeCount_64 X hr hk_4 S (lv_sub hl [1, 0, 2] rfl) hF
def f_X6_unlikeCount_4  : Nat → Option Nat → Int32 → Int32 → Hp → Option (Int32 × Hp)
  | 0, _, _, _, _ => none
  | n + 1, v0, v1, v2, h => (getR h v0 6 1).bind fun x1 =>
    (getI h x1 1 1).bind fun x2 =>
    if x2 ≤ v2 then
      some (v1, h)
    else
      (getR h v0 6 7).bind fun x4 =>
      (getR h x4 3 1).bind fun x5 =>
      (aldI h x5 12 v2).bind fun x6 =>
      if ¬ x6 = 0 then
        f_X6_unlikeCount_61 (f_X6_unlikeCount_4 n) v0 v1 v2 h
      else
        (getR h v0 6 8).bind fun x8 =>
        (getR h x8 3 1).bind fun x9 =>
        (aldI h x9 12 v2).bind fun x10 =>
        if ¬ x10 = 0 then
          f_X6_unlikeCount_61 (f_X6_unlikeCount_4 n) v0 v1 v2 h
        else
          (getR h v0 6 7).bind fun x12 =>
          (getR h x12 3 0).bind fun x13 =>
          (aldD h x13 v2).bind fun x14 =>
          (getR h v0 6 8).bind fun x15 =>
          (getR h x15 3 0).bind fun x16 =>
          (aldD h x16 v2).bind fun x17 =>
          if (Op.cmpValue (FP.dcmp x14 x17) CmpOp.l) = 0 then
            f_X6_unlikeCount_64 (f_X6_unlikeCount_4 n) v0 v1 v2 h
          else
            f_X6_unlikeCount_61 (f_X6_unlikeCount_4 n) v0 v1 v2 h
set_option maxHeartbeats 4000000 in
set_option maxRecDepth 100000 in
theorem w_X6_unlikeCount_4 {p : Program} {l : Launch} {e : Env} {s : State} {m : MethodId} {args : Array Value} {below : List Frame} {meth : Method} {c : Code} {D : va_G} {cA : Nat → ClassId} {sz : Nat} {rr : Int32} {hh : Hp}  (X : ab_X p s m args meth c cX6_unlikeCount 3 RX6 D cA sz) (hr : meth.sig.returnType = (some .int))  (n : Nat) : ∀ (v0 : Option Nat) (v1 : Int32) (v2 : Int32) (h : Hp) (H : Heap) (locs : List Loc) (ls : Array Slot), ab_H D cA sz h s H locs → lv_has ls 3 [(0, va_rf v0), (1, .int v1), (2, .int v2)] → f_X6_unlikeCount_4 n v0 v1 v2 h = some (rr, hh) → W p l e (ab_rm 0 0 0) s m args below meth c H locs 0 0 (MQ below (ab_Q D cA sz (some (.int rr)) hh) args s 0 0 (fun q => sz ≤ q)) (F0 m 4 ls []) := by
  induction n with
  | zero => intro v0 v1 v2 h H locs ls S hl hF; cases hF
  | succ n ih =>
    intro v0 v1 v2 h H locs ls S hl hF
    rw [f_X6_unlikeCount_4] at hF
    refine lv_iload_n X.1 X.2.1 dX6_unlikeCount_4 rfl (lv_at hl 2 rfl) ?_
    refine ab_aload_n X dX6_unlikeCount_5 rfl (lv_at hl 0 rfl) ?_
    refine ab_getR X S hF fi_6_1 lf_X6_40 dX6_unlikeCount_6 (fun x1 hF => ?_)
    refine ab_getI X S hF fi_1_1 lf_X6_95 dX6_unlikeCount_9 (fun x2 hF => ?_)
    refine lv_icmp_ge (tgt := 70) X.1 X.2.1 dX6_unlikeCount_12 (by decide) (fun c3 => ?_) (fun c3 => ?_)
    · have hF := ab_pos c3 hF
      refine lv_iload_n X.1 X.2.1 dX6_unlikeCount_70 rfl (lv_at hl 1 rfl) ?_
      exact ab_iret X S hr hF dX6_unlikeCount_71
    · have hF := ab_neg c3 hF
      refine ab_aload_n X dX6_unlikeCount_15 rfl (lv_at hl 0 rfl) ?_
      refine ab_getR X S hF fi_6_7 lf_X6_24 dX6_unlikeCount_16 (fun x4 hF => ?_)
      refine ab_getR X S hF fi_3_1 lf_X6_175 dX6_unlikeCount_19 (fun x5 hF => ?_)
      refine lv_iload_n X.1 X.2.1 dX6_unlikeCount_22 rfl (lv_at hl 2 rfl) ?_
      refine ab_aldZ X S hF dX6_unlikeCount_23 (fun x6 hF => ?_)
      refine lv_if_ne (tgt := 61) X.1 X.2.1 dX6_unlikeCount_24 (by decide) (fun c7 => ?_) (fun c7 => ?_)
      · have hF := ab_pos c7 hF
        exact w_X6_unlikeCount_61 X hr ih S (lv_sub hl [0, 1, 2] rfl) hF
      · have hF := ab_neg (fun q => q c7) hF
        refine ab_aload_n X dX6_unlikeCount_27 rfl (lv_at hl 0 rfl) ?_
        refine ab_getR X S hF fi_6_8 lf_X6_27 dX6_unlikeCount_28 (fun x8 hF => ?_)
        refine ab_getR X S hF fi_3_1 lf_X6_175 dX6_unlikeCount_31 (fun x9 hF => ?_)
        refine lv_iload_n X.1 X.2.1 dX6_unlikeCount_34 rfl (lv_at hl 2 rfl) ?_
        refine ab_aldZ X S hF dX6_unlikeCount_35 (fun x10 hF => ?_)
        refine lv_if_ne (tgt := 61) X.1 X.2.1 dX6_unlikeCount_36 (by decide) (fun c11 => ?_) (fun c11 => ?_)
        · have hF := ab_pos c11 hF
          exact w_X6_unlikeCount_61 X hr ih S (lv_sub hl [0, 1, 2] rfl) hF
        · have hF := ab_neg (fun q => q c11) hF
          refine ab_aload_n X dX6_unlikeCount_39 rfl (lv_at hl 0 rfl) ?_
          refine ab_getR X S hF fi_6_7 lf_X6_24 dX6_unlikeCount_40 (fun x12 hF => ?_)
          refine ab_getR X S hF fi_3_0 lf_X6_144 dX6_unlikeCount_43 (fun x13 hF => ?_)
          refine lv_iload_n X.1 X.2.1 dX6_unlikeCount_46 rfl (lv_at hl 2 rfl) ?_
          refine ab_aldD X S hF dX6_unlikeCount_47 (fun x14 hF => ?_)
          refine ab_aload_n X dX6_unlikeCount_48 rfl (lv_at hl 0 rfl) ?_
          refine ab_getR X S hF fi_6_8 lf_X6_27 dX6_unlikeCount_49 (fun x15 hF => ?_)
          refine ab_getR X S hF fi_3_0 lf_X6_144 dX6_unlikeCount_52 (fun x16 hF => ?_)
          refine lv_iload_n X.1 X.2.1 dX6_unlikeCount_55 rfl (lv_at hl 2 rfl) ?_
          refine ab_aldD X S hF dX6_unlikeCount_56 (fun x17 hF => ?_)
          refine lv_dcmp X.1 X.2.1 dX6_unlikeCount_57 ?_
          refine lv_if_eq (tgt := 64) X.1 X.2.1 dX6_unlikeCount_58 (by decide) (fun c18 => ?_) (fun c18 => ?_)
          · have hF := ab_pos c18 hF
            exact w_X6_unlikeCount_64 X hr ih S (lv_sub hl [0, 1, 2] rfl) hF
          · have hF := ab_neg c18 hF
            exact w_X6_unlikeCount_61 X hr ih S (lv_sub hl [0, 1, 2] rfl) hF
def f_X6_unlikeCount (this : Nat) (h : Hp) : Option (Int32 × Hp) :=
  f_X6_unlikeCount_4 fuelN (some this) 0 0 h
theorem mi_X6_unlikeCount : ab_MI yX6_unlikeCount cX6_unlikeCount 3 (some .int) 0 := ⟨lc_yX6_unlikeCount, lz_RX6, by decide, by decide, by decide +kernel⟩
set_option maxHeartbeats 4000000 in
set_option maxRecDepth 100000 in
theorem c_X6_unlikeCount (l : Launch) (D : va_G) (cA : Nat → ClassId) (sz : Nat) {this : Nat} {h hh : Hp} {rr : Int32} (hF : f_X6_unlikeCount this h = some (rr, hh)) : ab_C l D cA sz yX6_unlikeCount cX6_unlikeCount 3 (some .int) 0 0 0 [.ref this] h (some (.int rr)) hh := by
  refine Met.ofW (cc := cX6_unlikeCount) (maxL := 3) (ret := (some .int)) (by decide) rfl ?_
  intro p e s m args below meth c s₁ B hml hv
  obtain ⟨rfl, hT, hR⟩ := hv
  have X : ab_X p s m _ meth c cX6_unlikeCount 3 RX6 D cA sz := (ab_enter B hml hT hR).1
  have S := (ab_enter B hml hT hR).2
  have hr := B.returns
  obtain ⟨ls, hls, hl⟩ := ab_entry m [.ref this] 3 (lv := [(0, .ref this)]) (by simp [lg_sl, ab_cat, ab_cI, ab_cJ, ab_cD, ab_cF, ab_cA]) (by simp [lv_args, ab_cat, ab_cI, ab_cJ, ab_cD, ab_cF, ab_cA])
  rw [hls]
  have hl : lv_has ls 3 [(0, va_rf (some this))] := hl
  unfold f_X6_unlikeCount at hF
  show W p l e (ab_rm 0 0 0) s m _ below meth c s.heap [] 0 0 _ _
  refine lv_iconst (v := 0) X.1 X.2.1 dX6_unlikeCount_0 (by decide) ?_
  refine lv_istore_n (i := 1) (lv' := [(1, .int 0), (0, va_rf (some this))]) X.1 X.2.1 dX6_unlikeCount_1 rfl hl (by decide) (by simp [ab_cat, ab_cI, ab_cJ, ab_cD, ab_cF]) (fun ls hl => ?_)
  refine lv_iconst (v := 0) X.1 X.2.1 dX6_unlikeCount_2 (by decide) ?_
  refine lv_istore_n (i := 2) (lv' := [(2, .int 0), (1, .int 0), (0, va_rf (some this))]) X.1 X.2.1 dX6_unlikeCount_3 rfl hl (by decide) (by simp [ab_cat, ab_cI, ab_cJ, ab_cD, ab_cF]) (fun ls hl => ?_)
  exact w_X6_unlikeCount_4 X hr  fuelN _ _ _ _ _ _ _ S (lv_sub hl [2, 1, 0] rfl) hF
