def f_X9_count_105  (u0 : Int32) (h : Hp) : Option (Int32 × Hp) :=
  some (u0, h)
set_option maxHeartbeats 4000000 in
set_option maxRecDepth 100000 in
theorem w_X9_count_105 {p : Program} {l : Launch} {e : Env} {s : State} {m : MethodId} {args : Array Value} {below : List Frame} {meth : Method} {c : Code} {D : va_G} {cA : Nat → ClassId} {sz : Nat} {rr : Int32} {hh : Hp}  (X : ab_X p s m args meth c cX9_count 3 RX9 D cA sz) (hr : meth.sig.returnType = (some .int))  {H : Heap} {locs : List Loc} {ls : Array Slot} {u0 : Int32} {h : Hp} (S : ab_H D cA sz h s H locs) (hl : lv_has ls 3 []) (hF : f_X9_count_105 u0 h = some (rr, hh)) : W p l e (ab_rm 2 0 0) s m args below meth c H locs 0 0 (MQ below (ab_Q D cA sz (some (.int rr)) hh) args s 0 0 (fun q => sz ≤ q)) (F0 m 105 ls [.int u0]) := by
  unfold f_X9_count_105 at hF
  exact ab_iret X S hr hF dX9_count_105
def f_X9_count (this : Nat) (p0 : Int32) (p1 : Int32) (h : Hp) : Option (Int32 × Hp) :=
  (ab_ck h (some this) (9, 0)).bind fun a4 =>
  bnd (f_X9_isRun a4 p0 h) fun x1 h2 =>
  if ¬ x1 = 0 then
    if p1.toInt < 0 ∨ 7 < p1.toInt then
      some ((-1), h2)
    else if p1 = 0 then
      (getR h2 (some this) 9 15).bind fun x9 =>
      (aldI h2 x9 11 p0).bind fun x10 =>
      some (x10, h2)
    else if p1 = 1 then
      (getR h2 (some this) 9 16).bind fun x12 =>
      (aldI h2 x12 11 p0).bind fun x13 =>
      some (x13, h2)
    else if p1 = 2 then
      (getR h2 (some this) 9 18).bind fun x15 =>
      (aldI h2 x15 11 p0).bind fun x16 =>
      some (x16, h2)
    else if p1 = 3 then
      (getR h2 (some this) 9 19).bind fun x18 =>
      (aldI h2 x18 11 p0).bind fun x19 =>
      some (x19, h2)
    else if p1 = 4 then
      (getR h2 (some this) 9 20).bind fun x21 =>
      (aldI h2 x21 11 p0).bind fun x22 =>
      some (x22, h2)
    else if p1 = 5 then
      (getR h2 (some this) 9 22).bind fun x24 =>
      (aldI h2 x24 12 p0).bind fun x25 =>
      if x25 = 0 then
        f_X9_count_105 0 h2
      else
        f_X9_count_105 1 h2
    else if p1 = 6 then
      (getR h2 (some this) 9 17).bind fun x28 =>
      (aldI h2 x28 11 p0).bind fun x29 =>
      some (x29, h2)
    else if p1 = 7 then
      (getR h2 (some this) 9 21).bind fun x31 =>
      (aldI h2 x31 11 p0).bind fun x32 =>
      some (x32, h2)
    else none
  else
    some ((-1), h2)
theorem mi_X9_count : ab_MI yX9_count cX9_count 3 (some .int) 2 := ⟨lc_yX9_count, lz_RX9, by decide, by decide, by decide +kernel⟩
set_option maxHeartbeats 4000000 in
set_option maxRecDepth 100000 in
theorem c_X9_count (l : Launch) (D : va_G) (cA : Nat → ClassId) (sz : Nat) {this : Nat} {p0 : Int32} {p1 : Int32} {h hh : Hp} {rr : Int32} (hF : f_X9_count this p0 p1 h = some (rr, hh)) : ab_C l D cA sz yX9_count cX9_count 3 (some .int) 2 0 0 [.ref this, .int p0, .int p1] h (some (.int rr)) hh := by
  refine Met.ofW (cc := cX9_count) (maxL := 3) (ret := (some .int)) (by decide) rfl ?_
  intro p e s m args below meth c s₁ B hml hv
  obtain ⟨rfl, hT, hR⟩ := hv
  have X : ab_X p s m _ meth c cX9_count 3 RX9 D cA sz := (ab_enter B hml hT hR).1
  have S := (ab_enter B hml hT hR).2
  have hr := B.returns
  obtain ⟨ls, hls, hl⟩ := ab_entry m [.ref this, .int p0, .int p1] 3 (lv := [(0, .ref this), (1, .int p0), (2, .int p1)]) (by simp [lg_sl, ab_cat, ab_cI, ab_cJ, ab_cD, ab_cF, ab_cA]) (by simp [lv_args, ab_cat, ab_cI, ab_cJ, ab_cD, ab_cF, ab_cA])
  rw [hls]
  have hl : lv_has ls 3 [(0, va_rf (some this)), (1, .int p0), (2, .int p1)] := hl
  unfold f_X9_count at hF
  show W p l e (ab_rm 2 0 0) s m _ below meth c s.heap [] 0 0 _ _
  refine ab_aload_n X dX9_count_0 rfl (lv_at hl 0 rfl) ?_
  refine lv_iload_n X.1 X.2.1 dX9_count_1 rfl (lv_at hl 1 rfl) ?_
  obtain ⟨a4, e5, hF⟩ := bind_out hF
  obtain ⟨x1, h2, e3, hF⟩ := bnd_out hF
  refine ab_callVi X S e5 (c_X9_isRun l D cA sz e3) rfl (by decide) mi_X9_isRun lm_X9_366 li_yX9_isRun ls_yX9_isRun (As := [.int p0]) (rest := []) rfl ⟨by decide, by decide⟩ ⟨by decide, by decide⟩ hl.1 rfl (by simp [ab_cat, ab_cI, ab_cJ, ab_cD, ab_cF]) dX9_count_2 (fun H1 locs1 S => ?_)
  refine lv_if_ne (tgt := 10) X.1 X.2.1 dX9_count_5 (by decide) (fun c6 => ?_) (fun c6 => ?_)
  · have hF := ab_pos c6 hF
    refine lv_iload_n X.1 X.2.1 dX9_count_10 rfl (lv_at hl 2 rfl) ?_
    by_cases c7 : p1.toInt < 0 ∨ 7 < p1.toInt
    · have hF := ab_pos c7 hF
      refine lv_tableOut (tgt := 120) X.1 X.2.1 dX9_count_11 c7 (by decide) ?_
      refine lv_iconst (v := (-1)) X.1 X.2.1 dX9_count_120 (by decide) ?_
      exact ab_iret X S hr hF dX9_count_121
    have hF := ab_neg c7 hF
    by_cases c8 : p1 = 0
    · have hF := ab_pos c8 hF
      refine ab_tab (tgt := 56) X dX9_count_11 c8 (by decide) (by decide) rfl (by decide) ?_
      refine ab_aload_n X dX9_count_56 rfl (lv_at hl 0 rfl) ?_
      refine ab_getR X S hF fi_9_15 lf_X9_52 dX9_count_57 (fun x9 hF => ?_)
      refine lv_iload_n X.1 X.2.1 dX9_count_60 rfl (lv_at hl 1 rfl) ?_
      refine ab_aldI X S hF dX9_count_61 (fun x10 hF => ?_)
      exact ab_iret X S hr hF dX9_count_62
    have hF := ab_neg c8 hF
    by_cases c11 : p1 = 1
    · have hF := ab_pos c11 hF
      refine ab_tab (tgt := 63) X dX9_count_11 c11 (by decide) (by decide) rfl (by decide) ?_
      refine ab_aload_n X dX9_count_63 rfl (lv_at hl 0 rfl) ?_
      refine ab_getR X S hF fi_9_16 lf_X9_55 dX9_count_64 (fun x12 hF => ?_)
      refine lv_iload_n X.1 X.2.1 dX9_count_67 rfl (lv_at hl 1 rfl) ?_
      refine ab_aldI X S hF dX9_count_68 (fun x13 hF => ?_)
      exact ab_iret X S hr hF dX9_count_69
    have hF := ab_neg c11 hF
    by_cases c14 : p1 = 2
    · have hF := ab_pos c14 hF
      refine ab_tab (tgt := 70) X dX9_count_11 c14 (by decide) (by decide) rfl (by decide) ?_
      refine ab_aload_n X dX9_count_70 rfl (lv_at hl 0 rfl) ?_
      refine ab_getR X S hF fi_9_18 lf_X9_61 dX9_count_71 (fun x15 hF => ?_)
      refine lv_iload_n X.1 X.2.1 dX9_count_74 rfl (lv_at hl 1 rfl) ?_
      refine ab_aldI X S hF dX9_count_75 (fun x16 hF => ?_)
      exact ab_iret X S hr hF dX9_count_76
    have hF := ab_neg c14 hF
    by_cases c17 : p1 = 3
    · have hF := ab_pos c17 hF
      refine ab_tab (tgt := 77) X dX9_count_11 c17 (by decide) (by decide) rfl (by decide) ?_
      refine ab_aload_n X dX9_count_77 rfl (lv_at hl 0 rfl) ?_
      refine ab_getR X S hF fi_9_19 lf_X9_64 dX9_count_78 (fun x18 hF => ?_)
      refine lv_iload_n X.1 X.2.1 dX9_count_81 rfl (lv_at hl 1 rfl) ?_
      refine ab_aldI X S hF dX9_count_82 (fun x19 hF => ?_)
      exact ab_iret X S hr hF dX9_count_83
    have hF := ab_neg c17 hF
    by_cases c20 : p1 = 4
    · have hF := ab_pos c20 hF
      refine ab_tab (tgt := 84) X dX9_count_11 c20 (by decide) (by decide) rfl (by decide) ?_
      refine ab_aload_n X dX9_count_84 rfl (lv_at hl 0 rfl) ?_
      refine ab_getR X S hF fi_9_20 lf_X9_67 dX9_count_85 (fun x21 hF => ?_)
      refine lv_iload_n X.1 X.2.1 dX9_count_88 rfl (lv_at hl 1 rfl) ?_
      refine ab_aldI X S hF dX9_count_89 (fun x22 hF => ?_)
      exact ab_iret X S hr hF dX9_count_90
    have hF := ab_neg c20 hF
    by_cases c23 : p1 = 5
    · have hF := ab_pos c23 hF
      refine ab_tab (tgt := 91) X dX9_count_11 c23 (by decide) (by decide) rfl (by decide) ?_
      refine ab_aload_n X dX9_count_91 rfl (lv_at hl 0 rfl) ?_
      refine ab_getR X S hF fi_9_22 lf_X9_73 dX9_count_92 (fun x24 hF => ?_)
      refine lv_iload_n X.1 X.2.1 dX9_count_95 rfl (lv_at hl 1 rfl) ?_
      refine ab_aldZ X S hF dX9_count_96 (fun x25 hF => ?_)
      refine lv_if_eq (tgt := 104) X.1 X.2.1 dX9_count_97 (by decide) (fun c26 => ?_) (fun c26 => ?_)
      · have hF := ab_pos c26 hF
        refine lv_iconst (v := 0) X.1 X.2.1 dX9_count_104 (by decide) ?_
        exact w_X9_count_105 X hr  S (lv_sub hl [] rfl) hF
      · have hF := ab_neg c26 hF
        refine lv_iconst (v := 1) X.1 X.2.1 dX9_count_100 (by decide) ?_
        refine lv_goto (tgt := 105) X.1 X.2.1 dX9_count_101 (by decide) ?_
        exact w_X9_count_105 X hr  S (lv_sub hl [] rfl) hF
    have hF := ab_neg c23 hF
    by_cases c27 : p1 = 6
    · have hF := ab_pos c27 hF
      refine ab_tab (tgt := 106) X dX9_count_11 c27 (by decide) (by decide) rfl (by decide) ?_
      refine ab_aload_n X dX9_count_106 rfl (lv_at hl 0 rfl) ?_
      refine ab_getR X S hF fi_9_17 lf_X9_58 dX9_count_107 (fun x28 hF => ?_)
      refine lv_iload_n X.1 X.2.1 dX9_count_110 rfl (lv_at hl 1 rfl) ?_
      refine ab_aldI X S hF dX9_count_111 (fun x29 hF => ?_)
      exact ab_iret X S hr hF dX9_count_112
    have hF := ab_neg c27 hF
    by_cases c30 : p1 = 7
    · have hF := ab_pos c30 hF
      refine ab_tab (tgt := 113) X dX9_count_11 c30 (by decide) (by decide) rfl (by decide) ?_
      refine ab_aload_n X dX9_count_113 rfl (lv_at hl 0 rfl) ?_
      refine ab_getR X S hF fi_9_21 lf_X9_70 dX9_count_114 (fun x31 hF => ?_)
      refine lv_iload_n X.1 X.2.1 dX9_count_117 rfl (lv_at hl 1 rfl) ?_
      refine ab_aldI X S hF dX9_count_118 (fun x32 hF => ?_)
      exact ab_iret X S hr hF dX9_count_119
    have hF := ab_neg c30 hF
    cases hF
  · have hF := ab_neg (fun q => q c6) hF
    refine lv_iconst (v := (-1)) X.1 X.2.1 dX9_count_8 (by decide) ?_
    exact ab_iret X S hr hF dX9_count_9
def f_X9_copiesVariable_62  : Nat → Option Nat → Int32 → Int32 → Int32 → Hp → Option (Unit × Hp)
  | 0, _, _, _, _, _ => none
  | n + 1, v0, v1, v2, v3, h => if 5 ≤ v3 then
      some ((), h)
    else
      (getR h v0 9 44).bind fun x2 =>
      (getR h v0 9 44).bind fun x3 =>
      (aldD h x3 ((5 * v1) + v3)).bind fun x4 =>
      (astD h x2 ((5 * v2) + v3) x4).bind fun h5 =>
      f_X9_copiesVariable_62 n v0 v1 v2 (v3 + 1) h5
set_option maxHeartbeats 4000000 in
set_option maxRecDepth 100000 in
theorem w_X9_copiesVariable_62 {p : Program} {l : Launch} {e : Env} {s : State} {m : MethodId} {args : Array Value} {below : List Frame} {meth : Method} {c : Code} {D : va_G} {cA : Nat → ClassId} {sz : Nat}  {hh : Hp}  (X : ab_X p s m args meth c cX9_copiesVariable 4 RX9 D cA sz) (hr : meth.sig.returnType = none)  (n : Nat) : ∀ (v0 : Option Nat) (v1 : Int32) (v2 : Int32) (v3 : Int32) (h : Hp) (H : Heap) (locs : List Loc) (ls : Array Slot), ab_H D cA sz h s H locs → lv_has ls 4 [(0, va_rf v0), (1, .int v1), (2, .int v2), (3, .int v3)] → f_X9_copiesVariable_62 n v0 v1 v2 v3 h = some ((), hh) → W p l e (ab_rm 0 0 0) s m args below meth c H locs 0 0 (MQ below (ab_Q D cA sz none hh) args s 0 0 (fun q => sz ≤ q)) (F0 m 62 ls []) := by
  induction n with
  | zero => intro v0 v1 v2 v3 h H locs ls S hl hF; cases hF
  | succ n ih =>
    intro v0 v1 v2 v3 h H locs ls S hl hF
    rw [f_X9_copiesVariable_62] at hF
    refine lv_iload_n X.1 X.2.1 dX9_copiesVariable_62 rfl (lv_at hl 3 rfl) ?_
    refine lv_iconst (v := 5) X.1 X.2.1 dX9_copiesVariable_63 (by decide) ?_
    refine lv_icmp_ge (tgt := 93) X.1 X.2.1 dX9_copiesVariable_64 (by decide) (fun c1 => ?_) (fun c1 => ?_)
    · have hF := ab_pos c1 hF
      exact ab_vret X S hr hF dX9_copiesVariable_93
    · have hF := ab_neg c1 hF
      refine ab_aload_n X dX9_copiesVariable_67 rfl (lv_at hl 0 rfl) ?_
      refine ab_getR X S hF fi_9_44 lf_X9_140 dX9_copiesVariable_68 (fun x2 hF => ?_)
      refine lv_iconst (v := 5) X.1 X.2.1 dX9_copiesVariable_71 (by decide) ?_
      refine lv_iload_n X.1 X.2.1 dX9_copiesVariable_72 rfl (lv_at hl 2 rfl) ?_
      refine lv_imul X.1 X.2.1 dX9_copiesVariable_73 ?_
      refine lv_iload_n X.1 X.2.1 dX9_copiesVariable_74 rfl (lv_at hl 3 rfl) ?_
      refine lv_iadd X.1 X.2.1 dX9_copiesVariable_75 ?_
      refine ab_aload_n X dX9_copiesVariable_76 rfl (lv_at hl 0 rfl) ?_
      refine ab_getR X S hF fi_9_44 lf_X9_140 dX9_copiesVariable_77 (fun x3 hF => ?_)
      refine lv_iconst (v := 5) X.1 X.2.1 dX9_copiesVariable_80 (by decide) ?_
      refine lv_iload_n X.1 X.2.1 dX9_copiesVariable_81 rfl (lv_at hl 1 rfl) ?_
      refine lv_imul X.1 X.2.1 dX9_copiesVariable_82 ?_
      refine lv_iload_n X.1 X.2.1 dX9_copiesVariable_83 rfl (lv_at hl 3 rfl) ?_
      refine lv_iadd X.1 X.2.1 dX9_copiesVariable_84 ?_
      refine ab_aldD X S hF dX9_copiesVariable_85 (fun x4 hF => ?_)
      refine ab_astD X S hF dX9_copiesVariable_86 (fun h5 H1 locs1 hF S => ?_)
      refine lv_iinc (v := v3 + 1) (lv' := [(3, .int (v3 + 1)), (0, va_rf v0), (1, .int v1), (2, .int v2)]) X.1 X.2.1 dX9_copiesVariable_87 hl (k := 3) rfl (by rfl) (by decide) (by simp [ab_cat, ab_cI, ab_cJ, ab_cD, ab_cF]) (fun ls hl => ?_)
      refine lv_goto (tgt := 62) X.1 X.2.1 dX9_copiesVariable_90 (by decide) ?_
      exact ih _ _ _ _ _ _ _ _ S (lv_sub hl [1, 2, 3, 0] rfl) hF
def f_X9_copiesVariable (this : Nat) (p0 : Int32) (p1 : Int32) (h : Hp) : Option (Unit × Hp) :=
  (getR h (some this) 9 30).bind fun x1 =>
  (getR h (some this) 9 30).bind fun x2 =>
  (aldD h x2 p0).bind fun x3 =>
  (astD h x1 p1 x3).bind fun h4 =>
  (getR h4 (some this) 9 40).bind fun x5 =>
  (getR h4 (some this) 9 40).bind fun x6 =>
  (aldD h4 x6 p0).bind fun x7 =>
  (astD h4 x5 p1 x7).bind fun h8 =>
  (getR h8 (some this) 9 41).bind fun x9 =>
  (getR h8 (some this) 9 41).bind fun x10 =>
  (aldD h8 x10 p0).bind fun x11 =>
  (astD h8 x9 p1 x11).bind fun h12 =>
  (getR h12 (some this) 9 42).bind fun x13 =>
  (getR h12 (some this) 9 42).bind fun x14 =>
  (aldD h12 x14 p0).bind fun x15 =>
  (astD h12 x13 p1 x15).bind fun h16 =>
  (getR h16 (some this) 9 43).bind fun x17 =>
  (getR h16 (some this) 9 43).bind fun x18 =>
  (aldD h16 x18 p0).bind fun x19 =>
  (astD h16 x17 p1 x19).bind fun h20 =>
  f_X9_copiesVariable_62 fuelN (some this) p0 p1 0 h20
theorem mi_X9_copiesVariable : ab_MI yX9_copiesVariable cX9_copiesVariable 4 none 2 := ⟨lc_yX9_copiesVariable, lz_RX9, by decide, by decide, by decide +kernel⟩
set_option maxHeartbeats 4000000 in
set_option maxRecDepth 100000 in
theorem c_X9_copiesVariable (l : Launch) (D : va_G) (cA : Nat → ClassId) (sz : Nat) {this : Nat} {p0 : Int32} {p1 : Int32} {h hh : Hp}  (hF : f_X9_copiesVariable this p0 p1 h = some ((), hh)) : ab_C l D cA sz yX9_copiesVariable cX9_copiesVariable 4 none 0 0 0 [.ref this, .int p0, .int p1] h none hh := by
  refine Met.ofW (cc := cX9_copiesVariable) (maxL := 4) (ret := none) (by decide) rfl ?_
  intro p e s m args below meth c s₁ B hml hv
  obtain ⟨rfl, hT, hR⟩ := hv
  have X : ab_X p s m _ meth c cX9_copiesVariable 4 RX9 D cA sz := (ab_enter B hml hT hR).1
  have S := (ab_enter B hml hT hR).2
  have hr := B.returns
  obtain ⟨ls, hls, hl⟩ := ab_entry m [.ref this, .int p0, .int p1] 4 (lv := [(0, .ref this), (1, .int p0), (2, .int p1)]) (by simp [lg_sl, ab_cat, ab_cI, ab_cJ, ab_cD, ab_cF, ab_cA]) (by simp [lv_args, ab_cat, ab_cI, ab_cJ, ab_cD, ab_cF, ab_cA])
  rw [hls]
  have hl : lv_has ls 4 [(0, va_rf (some this)), (1, .int p0), (2, .int p1)] := hl
  unfold f_X9_copiesVariable at hF
  show W p l e (ab_rm 0 0 0) s m _ below meth c s.heap [] 0 0 _ _
  refine ab_aload_n X dX9_copiesVariable_0 rfl (lv_at hl 0 rfl) ?_
  refine ab_getR X S hF fi_9_30 lf_X9_98 dX9_copiesVariable_1 (fun x1 hF => ?_)
  refine lv_iload_n X.1 X.2.1 dX9_copiesVariable_4 rfl (lv_at hl 2 rfl) ?_
  refine ab_aload_n X dX9_copiesVariable_5 rfl (lv_at hl 0 rfl) ?_
  refine ab_getR X S hF fi_9_30 lf_X9_98 dX9_copiesVariable_6 (fun x2 hF => ?_)
  refine lv_iload_n X.1 X.2.1 dX9_copiesVariable_9 rfl (lv_at hl 1 rfl) ?_
  refine ab_aldD X S hF dX9_copiesVariable_10 (fun x3 hF => ?_)
  refine ab_astD X S hF dX9_copiesVariable_11 (fun h4 H1 locs1 hF S => ?_)
  refine ab_aload_n X dX9_copiesVariable_12 rfl (lv_at hl 0 rfl) ?_
  refine ab_getR X S hF fi_9_40 lf_X9_128 dX9_copiesVariable_13 (fun x5 hF => ?_)
  refine lv_iload_n X.1 X.2.1 dX9_copiesVariable_16 rfl (lv_at hl 2 rfl) ?_
  refine ab_aload_n X dX9_copiesVariable_17 rfl (lv_at hl 0 rfl) ?_
  refine ab_getR X S hF fi_9_40 lf_X9_128 dX9_copiesVariable_18 (fun x6 hF => ?_)
  refine lv_iload_n X.1 X.2.1 dX9_copiesVariable_21 rfl (lv_at hl 1 rfl) ?_
  refine ab_aldD X S hF dX9_copiesVariable_22 (fun x7 hF => ?_)
  refine ab_astD X S hF dX9_copiesVariable_23 (fun h8 H1 locs1 hF S => ?_)
  refine ab_aload_n X dX9_copiesVariable_24 rfl (lv_at hl 0 rfl) ?_
  refine ab_getR X S hF fi_9_41 lf_X9_131 dX9_copiesVariable_25 (fun x9 hF => ?_)
  refine lv_iload_n X.1 X.2.1 dX9_copiesVariable_28 rfl (lv_at hl 2 rfl) ?_
  refine ab_aload_n X dX9_copiesVariable_29 rfl (lv_at hl 0 rfl) ?_
  refine ab_getR X S hF fi_9_41 lf_X9_131 dX9_copiesVariable_30 (fun x10 hF => ?_)
  refine lv_iload_n X.1 X.2.1 dX9_copiesVariable_33 rfl (lv_at hl 1 rfl) ?_
  refine ab_aldD X S hF dX9_copiesVariable_34 (fun x11 hF => ?_)
  refine ab_astD X S hF dX9_copiesVariable_35 (fun h12 H1 locs1 hF S => ?_)
  refine ab_aload_n X dX9_copiesVariable_36 rfl (lv_at hl 0 rfl) ?_
  refine ab_getR X S hF fi_9_42 lf_X9_134 dX9_copiesVariable_37 (fun x13 hF => ?_)
  refine lv_iload_n X.1 X.2.1 dX9_copiesVariable_40 rfl (lv_at hl 2 rfl) ?_
  refine ab_aload_n X dX9_copiesVariable_41 rfl (lv_at hl 0 rfl) ?_
  refine ab_getR X S hF fi_9_42 lf_X9_134 dX9_copiesVariable_42 (fun x14 hF => ?_)
  refine lv_iload_n X.1 X.2.1 dX9_copiesVariable_45 rfl (lv_at hl 1 rfl) ?_
  refine ab_aldD X S hF dX9_copiesVariable_46 (fun x15 hF => ?_)
  refine ab_astD X S hF dX9_copiesVariable_47 (fun h16 H1 locs1 hF S => ?_)
  refine ab_aload_n X dX9_copiesVariable_48 rfl (lv_at hl 0 rfl) ?_
  refine ab_getR X S hF fi_9_43 lf_X9_137 dX9_copiesVariable_49 (fun x17 hF => ?_)
  refine lv_iload_n X.1 X.2.1 dX9_copiesVariable_52 rfl (lv_at hl 2 rfl) ?_
  refine ab_aload_n X dX9_copiesVariable_53 rfl (lv_at hl 0 rfl) ?_
  refine ab_getR X S hF fi_9_43 lf_X9_137 dX9_copiesVariable_54 (fun x18 hF => ?_)
  refine lv_iload_n X.1 X.2.1 dX9_copiesVariable_57 rfl (lv_at hl 1 rfl) ?_
  refine ab_aldD X S hF dX9_copiesVariable_58 (fun x19 hF => ?_)
  refine ab_astD X S hF dX9_copiesVariable_59 (fun h20 H1 locs1 hF S => ?_)
  refine lv_iconst (v := 0) X.1 X.2.1 dX9_copiesVariable_60 (by decide) ?_
  refine lv_istore_n (i := 3) (lv' := [(3, .int 0), (0, va_rf (some this)), (1, .int p0), (2, .int p1)]) X.1 X.2.1 dX9_copiesVariable_61 rfl hl (by decide) (by simp [ab_cat, ab_cI, ab_cJ, ab_cD, ab_cF]) (fun ls hl => ?_)
  exact w_X9_copiesVariable_62 X hr  fuelN _ _ _ _ _ _ _ _ S (lv_sub hl [1, 2, 3, 0] rfl) hF
def f_Jxe99ae_isNaN_b9ae7_11  (u0 : Int32) (h : Hp) : Option (Int32 × Hp) :=
  if u0 = 0 ∨ u0 = 1 then some (u0, h) else none
set_option maxHeartbeats 4000000 in
set_option maxRecDepth 100000 in
theorem w_Jxe99ae_isNaN_b9ae7_11 {p : Program} {l : Launch} {e : Env} {s : State} {m : MethodId} {args : Array Value} {below : List Frame} {meth : Method} {c : Code} {D : va_G} {cA : Nat → ClassId} {sz : Nat} {rr : Int32} {hh : Hp}  (X : ab_X p s m args meth c cJxe99ae_isNaN_b9ae7 2 RJxe99ae D cA sz) (hr : meth.sig.returnType = (some .boolean))  {H : Heap} {locs : List Loc} {ls : Array Slot} {u0 : Int32} {h : Hp} (S : ab_H D cA sz h s H locs) (hl : lv_has ls 2 []) (hF : f_Jxe99ae_isNaN_b9ae7_11 u0 h = some (rr, hh)) : W p l e (ab_rm 0 0 0) s m args below meth c H locs 0 0 (MQ below (ab_Q D cA sz (some (.int rr)) hh) args s 0 0 (fun q => sz ≤ q)) (F0 m 11 ls [.int u0]) := by
  unfold f_Jxe99ae_isNaN_b9ae7_11 at hF
  exact ab_zret X S hr hF dJxe99ae_isNaN_b9ae7_11
def f_Jxe99ae_isNaN_b9ae7 (p0 : UInt64) (h : Hp) : Option (Int32 × Hp) :=
  if (Op.cmpValue (FP.dcmp p0 p0) CmpOp.l) = 0 then
    f_Jxe99ae_isNaN_b9ae7_11 0 h
  else
    f_Jxe99ae_isNaN_b9ae7_11 1 h
theorem mi_Jxe99ae_isNaN_b9ae7 : ab_MI yJxe99ae_isNaN_b9ae7 cJxe99ae_isNaN_b9ae7 2 (some .boolean) 1 := ⟨lc_yJxe99ae_isNaN_b9ae7, lz_RJxe99ae, by decide, by decide, by decide +kernel⟩
set_option maxHeartbeats 4000000 in
set_option maxRecDepth 100000 in
theorem c_Jxe99ae_isNaN_b9ae7 (l : Launch) (D : va_G) (cA : Nat → ClassId) (sz : Nat) {p0 : UInt64} {h hh : Hp} {rr : Int32} (hF : f_Jxe99ae_isNaN_b9ae7 p0 h = some (rr, hh)) : ab_C l D cA sz yJxe99ae_isNaN_b9ae7 cJxe99ae_isNaN_b9ae7 2 (some .boolean) 0 0 0 [.double p0] h (some (.int rr)) hh := by
  refine Met.ofW (cc := cJxe99ae_isNaN_b9ae7) (maxL := 2) (ret := (some .boolean)) (by decide) rfl ?_
  intro p e s m args below meth c s₁ B hml hv
  obtain ⟨rfl, hT, hR⟩ := hv
  have X : ab_X p s m _ meth c cJxe99ae_isNaN_b9ae7 2 RJxe99ae D cA sz := (ab_enter B hml hT hR).1
  have S := (ab_enter B hml hT hR).2
  have hr := B.returns
  obtain ⟨ls, hls, hl⟩ := ab_entry m [.double p0] 2 (lv := [(0, .double p0)]) (by simp [lg_sl, ab_cat, ab_cI, ab_cJ, ab_cD, ab_cF, ab_cA]) (by simp [lv_args, ab_cat, ab_cI, ab_cJ, ab_cD, ab_cF, ab_cA])
  rw [hls]
  have hl : lv_has ls 2 [(0, .double p0)] := hl
  unfold f_Jxe99ae_isNaN_b9ae7 at hF
  show W p l e (ab_rm 0 0 0) s m _ below meth c s.heap [] 0 0 _ _
  refine lv_dload_n X.1 X.2.1 dJxe99ae_isNaN_b9ae7_0 rfl (lv_at hl 0 rfl) ?_
  refine lv_dload_n X.1 X.2.1 dJxe99ae_isNaN_b9ae7_1 rfl (lv_at hl 0 rfl) ?_
  refine lv_dcmp X.1 X.2.1 dJxe99ae_isNaN_b9ae7_2 ?_
  refine lv_if_eq (tgt := 10) X.1 X.2.1 dJxe99ae_isNaN_b9ae7_3 (by decide) (fun c1 => ?_) (fun c1 => ?_)
  · have hF := ab_pos c1 hF
    refine lv_iconst (v := 0) X.1 X.2.1 dJxe99ae_isNaN_b9ae7_10 (by decide) ?_
    exact w_Jxe99ae_isNaN_b9ae7_11 X hr  S (lv_sub hl [] rfl) hF
  · have hF := ab_neg c1 hF
    refine lv_iconst (v := 1) X.1 X.2.1 dJxe99ae_isNaN_b9ae7_6 (by decide) ?_
    refine lv_goto (tgt := 11) X.1 X.2.1 dJxe99ae_isNaN_b9ae7_7 (by decide) ?_
    exact w_Jxe99ae_isNaN_b9ae7_11 X hr  S (lv_sub hl [] rfl) hF
def f_Jxe99ae_doubleToLongBits_ccdee (p0 : UInt64) (h : Hp) : Option (Int64 × Hp) :=
  bnd (f_Jxe99ae_isNaN_b9ae7 p0 h) fun x1 h2 =>
  if ¬ x1 = 0 then
    some ((9221120237041090560), h2)
  else
    some (p0.toInt64, h2)
theorem mi_Jxe99ae_doubleToLongBits_ccdee : ab_MI yJxe99ae_doubleToLongBits_ccdee cJxe99ae_doubleToLongBits_ccdee 2 (some .long) 1 := ⟨lc_yJxe99ae_doubleToLongBits_ccdee, lz_RJxe99ae, by decide, by decide, by decide +kernel⟩
set_option maxHeartbeats 4000000 in
set_option maxRecDepth 100000 in
theorem c_Jxe99ae_doubleToLongBits_ccdee (l : Launch) (D : va_G) (cA : Nat → ClassId) (sz : Nat) {p0 : UInt64} {h hh : Hp} {rr : Int64} (hF : f_Jxe99ae_doubleToLongBits_ccdee p0 h = some (rr, hh)) : ab_C l D cA sz yJxe99ae_doubleToLongBits_ccdee cJxe99ae_doubleToLongBits_ccdee 2 (some .long) 1 0 0 [.double p0] h (some (.long rr)) hh := by
  refine Met.ofW (cc := cJxe99ae_doubleToLongBits_ccdee) (maxL := 2) (ret := (some .long)) (by decide) rfl ?_
  intro p e s m args below meth c s₁ B hml hv
  obtain ⟨rfl, hT, hR⟩ := hv
  have X : ab_X p s m _ meth c cJxe99ae_doubleToLongBits_ccdee 2 RJxe99ae D cA sz := (ab_enter B hml hT hR).1
  have S := (ab_enter B hml hT hR).2
  have hr := B.returns
  obtain ⟨ls, hls, hl⟩ := ab_entry m [.double p0] 2 (lv := [(0, .double p0)]) (by simp [lg_sl, ab_cat, ab_cI, ab_cJ, ab_cD, ab_cF, ab_cA]) (by simp [lv_args, ab_cat, ab_cI, ab_cJ, ab_cD, ab_cF, ab_cA])
  rw [hls]
  have hl : lv_has ls 2 [(0, .double p0)] := hl
  unfold f_Jxe99ae_doubleToLongBits_ccdee at hF
  show W p l e (ab_rm 1 0 0) s m _ below meth c s.heap [] 0 0 _ _
  refine lv_dload_n X.1 X.2.1 dJxe99ae_doubleToLongBits_ccdee_0 rfl (lv_at hl 0 rfl) ?_
  obtain ⟨x1, h2, e3, hF⟩ := bnd_out hF
  refine ab_callSi X S (c_Jxe99ae_isNaN_b9ae7 l D cA sz e3) mi_Jxe99ae_isNaN_b9ae7 lm_Jxe99ae_122 lt_yJxe99ae_isNaN_b9ae7 (As := [.double p0]) (rest := []) rfl ⟨by decide, by decide⟩ ⟨by decide, by decide⟩ hl.1 rfl (by simp [ab_cat, ab_cI, ab_cJ, ab_cD, ab_cF]) dJxe99ae_doubleToLongBits_ccdee_1 (fun H1 locs1 S => ?_)
  refine lv_if_ne (tgt := 12) X.1 X.2.1 dJxe99ae_doubleToLongBits_ccdee_4 (by decide) (fun c4 => ?_) (fun c4 => ?_)
  · have hF := ab_pos c4 hF
    refine lv_ldc2 (v := (9221120237041090560)) X.1 X.2.1 X.2.2.2.1 (X.2.2.2.2.1 _ ll_Jxe99ae_137) dJxe99ae_doubleToLongBits_ccdee_12 ?_
    exact ab_lret X S hr hF dJxe99ae_doubleToLongBits_ccdee_15
  · have hF := ab_neg (fun q => q c4) hF
    refine lv_dload_n X.1 X.2.1 dJxe99ae_doubleToLongBits_ccdee_7 rfl (lv_at hl 0 rfl) ?_
    refine vn_d2l X.1 X.2.1 (X.2.2.1.trans hl.1.symm) X.2.2.2.1 (X.2.2.2.2.1 _ lm_Jxe99ae_134) (X.2.2.2.2.1 _ lv_n_java_lang_Double_doubleToRawLongBits_D_J) (X.2.2.2.2.1 _ lt_java_lang_Double_doubleToRawLongBits_D_J) (X.2.2.2.2.1 _ lz_java_lang_Double) (by decide) (by simp [ab_cat, ab_cI, ab_cJ, ab_cD, ab_cF]) dJxe99ae_doubleToLongBits_ccdee_8 ?_
    exact ab_lret X S hr hF dJxe99ae_doubleToLongBits_ccdee_11
def f_X1_reckoned_367  (u0 : Int32) (u1 : Option Nat) (u2 : Option Nat) (h : Hp) : Option (UInt64 × Hp) :=
  (ab_ck h u2 (2, 0)).bind fun a4 =>
  bnd (f_X2_read a4 u1 u0 h) fun x1 h2 =>
  some (x1, h2)
set_option maxHeartbeats 4000000 in
set_option maxRecDepth 100000 in
theorem w_X1_reckoned_367 {p : Program} {l : Launch} {e : Env} {s : State} {m : MethodId} {args : Array Value} {below : List Frame} {meth : Method} {c : Code} {D : va_G} {cA : Nat → ClassId} {sz : Nat} {rr : UInt64} {hh : Hp}  (X : ab_X p s m args meth c cX1_reckoned 8 RX1 D cA sz) (hr : meth.sig.returnType = (some .double))  {H : Heap} {locs : List Loc} {ls : Array Slot} {u0 : Int32} {u1 : Option Nat} {u2 : Option Nat} {h : Hp} (S : ab_H D cA sz h s H locs) (hl : lv_has ls 8 []) (hF : f_X1_reckoned_367 u0 u1 u2 h = some (rr, hh)) : W p l e (ab_rm 1 0 0) s m args below meth c H locs 0 0 (MQ below (ab_Q D cA sz (some (.double rr)) hh) args s 0 0 (fun q => sz ≤ q)) (F0 m 367 ls [.int u0, va_rf u1, va_rf u2]) := by
  unfold f_X1_reckoned_367 at hF
  obtain ⟨a4, e5, hF⟩ := bind_out hF
  obtain ⟨x1, h2, e3, hF⟩ := bnd_out hF
  refine ab_callVd X S e5 (c_X2_read l D cA sz e3) rfl (by decide) mi_X2_read lm_X1_92 li_yX2_read ls_yX2_read (As := [va_rf u1, .int u0]) (rest := []) rfl ⟨by decide, by decide⟩ ⟨by decide, by decide⟩ hl.1 rfl (by simp [ab_cat, ab_cI, ab_cJ, ab_cD, ab_cF]) dX1_reckoned_367 (fun H1 locs1 S => ?_)
  exact ab_dret X S hr hF dX1_reckoned_370
def f_X1_reckoned_402  (u0 : UInt64) (h : Hp) : Option (UInt64 × Hp) :=
  some (u0, h)
set_option maxHeartbeats 4000000 in
set_option maxRecDepth 100000 in
theorem w_X1_reckoned_402 {p : Program} {l : Launch} {e : Env} {s : State} {m : MethodId} {args : Array Value} {below : List Frame} {meth : Method} {c : Code} {D : va_G} {cA : Nat → ClassId} {sz : Nat} {rr : UInt64} {hh : Hp}  (X : ab_X p s m args meth c cX1_reckoned 8 RX1 D cA sz) (hr : meth.sig.returnType = (some .double))  {H : Heap} {locs : List Loc} {ls : Array Slot} {u0 : UInt64} {h : Hp} (S : ab_H D cA sz h s H locs) (hl : lv_has ls 8 []) (hF : f_X1_reckoned_402 u0 h = some (rr, hh)) : W p l e (ab_rm 1 0 0) s m args below meth c H locs 0 0 (MQ below (ab_Q D cA sz (some (.double rr)) hh) args s 0 0 (fun q => sz ≤ q)) (F0 m 402 ls [.double u0]) := by
  unfold f_X1_reckoned_402 at hF
  exact ab_dret X S hr hF dX1_reckoned_402
def f_X1_reckoned_447  (u0 : UInt64) (h : Hp) : Option (UInt64 × Hp) :=
  some (u0, h)
set_option maxHeartbeats 4000000 in
set_option maxRecDepth 100000 in
theorem w_X1_reckoned_447 {p : Program} {l : Launch} {e : Env} {s : State} {m : MethodId} {args : Array Value} {below : List Frame} {meth : Method} {c : Code} {D : va_G} {cA : Nat → ClassId} {sz : Nat} {rr : UInt64} {hh : Hp}  (X : ab_X p s m args meth c cX1_reckoned 8 RX1 D cA sz) (hr : meth.sig.returnType = (some .double))  {H : Heap} {locs : List Loc} {ls : Array Slot} {u0 : UInt64} {h : Hp} (S : ab_H D cA sz h s H locs) (hl : lv_has ls 8 []) (hF : f_X1_reckoned_447 u0 h = some (rr, hh)) : W p l e (ab_rm 1 0 0) s m args below meth c H locs 0 0 (MQ below (ab_Q D cA sz (some (.double rr)) hh) args s 0 0 (fun q => sz ≤ q)) (F0 m 447 ls [.double u0]) := by
  unfold f_X1_reckoned_447 at hF
  exact ab_dret X S hr hF dX1_reckoned_447
def f_X1_reckoned_425   (h : Hp) : Option (UInt64 × Hp) :=
  f_X1_reckoned_447 FP.dconst0 h
set_option maxHeartbeats 4000000 in
set_option maxRecDepth 100000 in
theorem w_X1_reckoned_425 {p : Program} {l : Launch} {e : Env} {s : State} {m : MethodId} {args : Array Value} {below : List Frame} {meth : Method} {c : Code} {D : va_G} {cA : Nat → ClassId} {sz : Nat} {rr : UInt64} {hh : Hp}  (X : ab_X p s m args meth c cX1_reckoned 8 RX1 D cA sz) (hr : meth.sig.returnType = (some .double))  {H : Heap} {locs : List Loc} {ls : Array Slot}  {h : Hp} (S : ab_H D cA sz h s H locs) (hl : lv_has ls 8 []) (hF : f_X1_reckoned_425  h = some (rr, hh)) : W p l e (ab_rm 1 0 0) s m args below meth c H locs 0 0 (MQ below (ab_Q D cA sz (some (.double rr)) hh) args s 0 0 (fun q => sz ≤ q)) (F0 m 425 ls []) := by
  unfold f_X1_reckoned_425 at hF
  refine lv_dconst0 X.1 X.2.1 dX1_reckoned_425 ?_
  refine lv_goto (tgt := 447) X.1 X.2.1 dX1_reckoned_426 (by decide) ?_
  exact w_X1_reckoned_447 X hr  S (lv_sub hl [] rfl) hF
def f_X1_reckoned (this : Nat) (p0 : Int32) (p1 : UInt64) (p2 : Option Nat) (h : Hp) : Option (UInt64 × Hp) :=
  (getR h (some this) 1 6).bind fun x1 =>
  (aldI h x1 11 p0).bind fun x2 =>
  (getR h (some this) 1 7).bind fun x3 =>
  (aldI h x3 11 p0).bind fun x4 =>
  (getR h (some this) 1 5).bind fun x5 =>
  (aldI h x5 11 p0).bind fun x6 =>
  if x6.toInt < 0 ∨ 12 < x6.toInt then
    (getR h (some this) 1 9).bind fun x8 =>
    (aldD h x8 p0).bind fun x9 =>
    some (x9, h)
  else if x6 = 0 then
    (getR h (some this) 1 4).bind fun x11 =>
    (ab_ck h x11 (2, 0)).bind fun a15 =>
    bnd (f_X2_read a15 p2 x2 h) fun x12 h13 =>
    some (x12, h13)
  else if x6 = 1 then
    some (p1, h)
  else if x6 = 2 then
    (getR h (some this) 1 4).bind fun x19 =>
    (getR h (some this) 1 4).bind fun x20 =>
    (getR h (some this) 1 13).bind fun x21 =>
    (ab_ck h x20 (2, 0)).bind fun a25 =>
    bnd (f_X2_read a25 x21 x2 h) fun x22 h23 =>
    (getR h23 (some this) 1 4).bind fun x27 =>
    (getR h23 (some this) 1 13).bind fun x28 =>
    (ab_ck h23 x27 (2, 0)).bind fun a32 =>
    bnd (f_X2_read a32 x28 x4 h23) fun x29 h30 =>
    (ab_ck h30 x19 (2, 0)).bind fun a37 =>
    bnd (f_X2_sum a37 x22 x29 h30) fun x34 h35 =>
    some (x34, h35)
  else if x6 = 3 then
    (getR h (some this) 1 4).bind fun x40 =>
    (getR h (some this) 1 4).bind fun x41 =>
    (getR h (some this) 1 13).bind fun x42 =>
    (ab_ck h x41 (2, 0)).bind fun a46 =>
    bnd (f_X2_read a46 x42 x2 h) fun x43 h44 =>
    (getR h44 (some this) 1 4).bind fun x48 =>
    (getR h44 (some this) 1 13).bind fun x49 =>
    (ab_ck h44 x48 (2, 0)).bind fun a53 =>
    bnd (f_X2_read a53 x49 x4 h44) fun x50 h51 =>
    (ab_ck h51 x40 (2, 0)).bind fun a58 =>
    bnd (f_X2_difference a58 x43 x50 h51) fun x55 h56 =>
    some (x55, h56)
  else if x6 = 4 then
    (getR h (some this) 1 4).bind fun x61 =>
    (getR h (some this) 1 4).bind fun x62 =>
    (getR h (some this) 1 13).bind fun x63 =>
    (ab_ck h x62 (2, 0)).bind fun a67 =>
    bnd (f_X2_read a67 x63 x2 h) fun x64 h65 =>
    (getR h65 (some this) 1 4).bind fun x69 =>
    (getR h65 (some this) 1 13).bind fun x70 =>
    (ab_ck h65 x69 (2, 0)).bind fun a74 =>
    bnd (f_X2_read a74 x70 x4 h65) fun x71 h72 =>
    (ab_ck h72 x61 (2, 0)).bind fun a79 =>
    bnd (f_X2_product a79 x64 x71 h72) fun x76 h77 =>
    some (x76, h77)
  else if x6 = 5 then
    (getR h (some this) 1 4).bind fun x82 =>
    (getR h (some this) 1 4).bind fun x83 =>
    (getR h (some this) 1 13).bind fun x84 =>
    (ab_ck h x83 (2, 0)).bind fun a88 =>
    bnd (f_X2_read a88 x84 x2 h) fun x85 h86 =>
    (getR h86 (some this) 1 4).bind fun x90 =>
    (getR h86 (some this) 1 13).bind fun x91 =>
    (ab_ck h86 x90 (2, 0)).bind fun a95 =>
    bnd (f_X2_read a95 x91 x4 h86) fun x92 h93 =>
    (ab_ck h93 x82 (2, 0)).bind fun a100 =>
    bnd (f_X2_quotient a100 x85 x92 h93) fun x97 h98 =>
    some (x97, h98)
  else if x6 = 6 then
    (getR h (some this) 1 4).bind fun x103 =>
    (getR h (some this) 1 13).bind fun x104 =>
    (ab_ck h x103 (2, 0)).bind fun a108 =>
    bnd (f_X2_read a108 x104 x2 h) fun x105 h106 =>
    some (FP.dneg x105, h106)
  else if x6 = 7 then
    (getR h (some this) 1 4).bind fun x111 =>
    (getR h (some this) 1 13).bind fun x112 =>
    (ab_ck h x111 (2, 0)).bind fun a116 =>
    bnd (f_X2_read a116 x112 x2 h) fun x113 h114 =>
    bnd (f_X8_size x113 h114) fun x118 h119 =>
    some (x118, h119)
  else if x6 = 8 then
    (getR h (some this) 1 4).bind fun x122 =>
    (getR h (some this) 1 4).bind fun x123 =>
    (getR h (some this) 1 13).bind fun x124 =>
    (ab_ck h x123 (2, 0)).bind fun a128 =>
    bnd (f_X2_read a128 x124 x2 h) fun x125 h126 =>
    (getR h126 (some this) 1 4).bind fun x130 =>
    (getR h126 (some this) 1 13).bind fun x131 =>
    (ab_ck h126 x130 (2, 0)).bind fun a135 =>
    bnd (f_X2_read a135 x131 x4 h126) fun x132 h133 =>
    (ab_ck h133 x122 (2, 0)).bind fun a140 =>
    bnd (f_X2_lesser a140 x125 x132 h133) fun x137 h138 =>
    some (x137, h138)
  else if x6 = 9 then
    (getR h (some this) 1 4).bind fun x143 =>
    (getR h (some this) 1 4).bind fun x144 =>
    (getR h (some this) 1 13).bind fun x145 =>
    (ab_ck h x144 (2, 0)).bind fun a149 =>
    bnd (f_X2_read a149 x145 x2 h) fun x146 h147 =>
    (getR h147 (some this) 1 4).bind fun x151 =>
    (getR h147 (some this) 1 13).bind fun x152 =>
    (ab_ck h147 x151 (2, 0)).bind fun a156 =>
    bnd (f_X2_read a156 x152 x4 h147) fun x153 h154 =>
    (ab_ck h154 x143 (2, 0)).bind fun a161 =>
    bnd (f_X2_greater a161 x146 x153 h154) fun x158 h159 =>
    some (x158, h159)
  else if x6 = 10 then
    (getR h (some this) 1 4).bind fun x164 =>
    (getR h (some this) 1 13).bind fun x165 =>
    (ab_ck h (some this) (1, 0)).bind fun a169 =>
    bnd (f_X1_signOf a169 x2 h) fun x166 h167 =>
    if ¬ x166 = (-1) then
      (getR h167 (some this) 1 8).bind fun x172 =>
      (aldI h167 x172 11 p0).bind fun x173 =>
      f_X1_reckoned_367 x173 x165 x164 h167
    else
      f_X1_reckoned_367 x4 x165 x164 h167
  else if x6 = 11 then
    if ¬ x4 = 0 then
      (getR h (some this) 1 4).bind fun x176 =>
      (getR h (some this) 1 4).bind fun x177 =>
      (getR h (some this) 1 13).bind fun x178 =>
      (ab_ck h x177 (2, 0)).bind fun a182 =>
      bnd (f_X2_read a182 x178 x2 h) fun x179 h180 =>
      (ab_ck h180 x176 (2, 0)).bind fun a187 =>
      bnd (f_X2_power a187 x179 x4 h180) fun x184 h185 =>
      f_X1_reckoned_402 x184 h185
    else
      f_X1_reckoned_402 FP.dconst1 h
  else if x6 = 12 then
    (getR h (some this) 1 3).bind fun x190 =>
    (aldR h x190 16 x4).bind fun x191 =>
    if x191 = none then
      f_X1_reckoned_425 h
    else
      (getI h x191 5 3).bind fun x193 =>
      if ¬ x193 = 0 then
        (getR h (some this) 1 4).bind fun x195 =>
        (getR h (some this) 1 13).bind fun x196 =>
        (ab_ck h x195 (2, 0)).bind fun a200 =>
        bnd (f_X2_read a200 x196 x2 h) fun x197 h198 =>
        (ab_ck h198 x191 (5, 0)).bind fun a205 =>
        bnd (f_X5_heightAt a205 x197 h198) fun x202 h203 =>
        f_X1_reckoned_447 x202 h203
      else
        f_X1_reckoned_425 h
  else none
theorem mi_X1_reckoned : ab_MI yX1_reckoned cX1_reckoned 8 (some .double) 3 := ⟨lc_yX1_reckoned, lz_RX1, by decide, by decide, by decide +kernel⟩
set_option maxHeartbeats 4000000 in
set_option maxRecDepth 100000 in
theorem c_X1_reckoned (l : Launch) (D : va_G) (cA : Nat → ClassId) (sz : Nat) {this : Nat} {p0 : Int32} {p1 : UInt64} {p2 : Option Nat} {h hh : Hp} {rr : UInt64} (hF : f_X1_reckoned this p0 p1 p2 h = some (rr, hh)) : ab_C l D cA sz yX1_reckoned cX1_reckoned 8 (some .double) 1 0 0 [.ref this, .int p0, .double p1, va_rf p2] h (some (.double rr)) hh := by
  refine Met.ofW (cc := cX1_reckoned) (maxL := 8) (ret := (some .double)) (by decide) rfl ?_
  intro p e s m args below meth c s₁ B hml hv
  obtain ⟨rfl, hT, hR⟩ := hv
  have X : ab_X p s m _ meth c cX1_reckoned 8 RX1 D cA sz := (ab_enter B hml hT hR).1
  have S := (ab_enter B hml hT hR).2
  have hr := B.returns
  obtain ⟨ls, hls, hl⟩ := ab_entry m [.ref this, .int p0, .double p1, va_rf p2] 8 (lv := [(0, .ref this), (1, .int p0), (2, .double p1), (4, va_rf p2)]) (by simp [lg_sl, ab_cat, ab_cI, ab_cJ, ab_cD, ab_cF, ab_cA]) (by simp [lv_args, ab_cat, ab_cI, ab_cJ, ab_cD, ab_cF, ab_cA])
  rw [hls]
  have hl : lv_has ls 8 [(0, va_rf (some this)), (1, .int p0), (2, .double p1), (4, va_rf p2)] := hl
  unfold f_X1_reckoned at hF
  show W p l e (ab_rm 1 0 0) s m _ below meth c s.heap [] 0 0 _ _
  refine ab_aload_n X dX1_reckoned_0 rfl (lv_at hl 0 rfl) ?_
  refine ab_getR X S hF fi_1_6 lf_X1_33 dX1_reckoned_1 (fun x1 hF => ?_)
  refine lv_iload_n X.1 X.2.1 dX1_reckoned_4 rfl (lv_at hl 1 rfl) ?_
  refine ab_aldI X S hF dX1_reckoned_5 (fun x2 hF => ?_)
  refine lv_istore (lv' := [(5, .int x2), (0, va_rf (some this)), (1, .int p0), (2, .double p1), (4, va_rf p2)]) X.1 X.2.1 dX1_reckoned_6 hl (by decide) (by simp [ab_cat, ab_cI, ab_cJ, ab_cD, ab_cF]) (fun ls hl => ?_)
  refine ab_aload_n X dX1_reckoned_8 rfl (lv_at hl 1 rfl) ?_
  refine ab_getR X S hF fi_1_7 lf_X1_36 dX1_reckoned_9 (fun x3 hF => ?_)
  refine lv_iload_n X.1 X.2.1 dX1_reckoned_12 rfl (lv_at hl 2 rfl) ?_
  refine ab_aldI X S hF dX1_reckoned_13 (fun x4 hF => ?_)
  refine lv_istore (lv' := [(6, .int x4), (5, .int x2), (0, va_rf (some this)), (1, .int p0), (2, .double p1), (4, va_rf p2)]) X.1 X.2.1 dX1_reckoned_14 hl (by decide) (by simp [ab_cat, ab_cI, ab_cJ, ab_cD, ab_cF]) (fun ls hl => ?_)
  refine ab_aload_n X dX1_reckoned_16 rfl (lv_at hl 2 rfl) ?_
  refine ab_getR X S hF fi_1_5 lf_X1_29 dX1_reckoned_17 (fun x5 hF => ?_)
  refine lv_iload_n X.1 X.2.1 dX1_reckoned_20 rfl (lv_at hl 3 rfl) ?_
  refine ab_aldI X S hF dX1_reckoned_21 (fun x6 hF => ?_)
  by_cases c7 : x6.toInt < 0 ∨ 12 < x6.toInt
  · have hF := ab_pos c7 hF
    refine lv_tableOut (tgt := 448) X.1 X.2.1 dX1_reckoned_22 c7 (by decide) ?_
    refine ab_aload_n X dX1_reckoned_448 rfl (lv_at hl 2 rfl) ?_
    refine ab_getR X S hF fi_1_9 lf_X1_42 dX1_reckoned_449 (fun x8 hF => ?_)
    refine lv_iload_n X.1 X.2.1 dX1_reckoned_452 rfl (lv_at hl 3 rfl) ?_
    refine ab_aldD X S hF dX1_reckoned_453 (fun x9 hF => ?_)
    exact ab_dret X S hr hF dX1_reckoned_454
  have hF := ab_neg c7 hF
  by_cases c10 : x6 = 0
  · have hF := ab_pos c10 hF
    refine ab_tab (tgt := 88) X dX1_reckoned_22 c10 (by decide) (by decide) rfl (by decide) ?_
    refine ab_aload_n X dX1_reckoned_88 rfl (lv_at hl 2 rfl) ?_
    refine ab_getR X S hF fi_1_4 lf_X1_25 dX1_reckoned_89 (fun x11 hF => ?_)
    refine ab_aload X dX1_reckoned_92 (lv_at hl 5 rfl) ?_
    refine lv_iload X.1 X.2.1 dX1_reckoned_94 (lv_at hl 1 rfl) ?_
    obtain ⟨a15, e16, hF⟩ := bind_out hF
    obtain ⟨x12, h13, e14, hF⟩ := bnd_out hF
    refine ab_callVd X S e16 (c_X2_read l D cA sz e14) rfl (by decide) mi_X2_read lm_X1_92 li_yX2_read ls_yX2_read (As := [va_rf p2, .int x2]) (rest := []) rfl ⟨by decide, by decide⟩ ⟨by decide, by decide⟩ hl.1 rfl (by simp [ab_cat, ab_cI, ab_cJ, ab_cD, ab_cF]) dX1_reckoned_96 (fun H1 locs1 S => ?_)
    exact ab_dret X S hr hF dX1_reckoned_99
  have hF := ab_neg c10 hF
  by_cases c17 : x6 = 1
  · have hF := ab_pos c17 hF
    refine ab_tab (tgt := 100) X dX1_reckoned_22 c17 (by decide) (by decide) rfl (by decide) ?_
    refine lv_dload_n X.1 X.2.1 dX1_reckoned_100 rfl (lv_at hl 4 rfl) ?_
    exact ab_dret X S hr hF dX1_reckoned_101
  have hF := ab_neg c17 hF
  by_cases c18 : x6 = 2
  · have hF := ab_pos c18 hF
    refine ab_tab (tgt := 102) X dX1_reckoned_22 c18 (by decide) (by decide) rfl (by decide) ?_
    refine ab_aload_n X dX1_reckoned_102 rfl (lv_at hl 2 rfl) ?_
    refine ab_getR X S hF fi_1_4 lf_X1_25 dX1_reckoned_103 (fun x19 hF => ?_)
    refine ab_aload_n X dX1_reckoned_106 rfl (lv_at hl 2 rfl) ?_
    refine ab_getR X S hF fi_1_4 lf_X1_25 dX1_reckoned_107 (fun x20 hF => ?_)
    refine ab_aload_n X dX1_reckoned_110 rfl (lv_at hl 2 rfl) ?_
    refine ab_getR X S hF fi_1_13 lf_X1_51 dX1_reckoned_111 (fun x21 hF => ?_)
    refine lv_iload X.1 X.2.1 dX1_reckoned_114 (lv_at hl 1 rfl) ?_
    obtain ⟨a25, e26, hF⟩ := bind_out hF
    obtain ⟨x22, h23, e24, hF⟩ := bnd_out hF
    refine ab_callVd X S e26 (c_X2_read l D cA sz e24) rfl (by decide) mi_X2_read lm_X1_92 li_yX2_read ls_yX2_read (As := [va_rf x21, .int x2]) (rest := [va_rf x19]) rfl ⟨by decide, by decide⟩ ⟨by decide, by decide⟩ hl.1 rfl (by simp [ab_cat, ab_cI, ab_cJ, ab_cD, ab_cF]) dX1_reckoned_116 (fun H1 locs1 S => ?_)
    refine ab_aload_n X dX1_reckoned_119 rfl (lv_at hl 2 rfl) ?_
    refine ab_getR X S hF fi_1_4 lf_X1_25 dX1_reckoned_120 (fun x27 hF => ?_)
    refine ab_aload_n X dX1_reckoned_123 rfl (lv_at hl 2 rfl) ?_
    refine ab_getR X S hF fi_1_13 lf_X1_51 dX1_reckoned_124 (fun x28 hF => ?_)
    refine lv_iload X.1 X.2.1 dX1_reckoned_127 (lv_at hl 0 rfl) ?_
    obtain ⟨a32, e33, hF⟩ := bind_out hF
    obtain ⟨x29, h30, e31, hF⟩ := bnd_out hF
    refine ab_callVd X S e33 (c_X2_read l D cA sz e31) rfl (by decide) mi_X2_read lm_X1_92 li_yX2_read ls_yX2_read (As := [va_rf x28, .int x4]) (rest := [.double x22, va_rf x19]) rfl ⟨by decide, by decide⟩ ⟨by decide, by decide⟩ hl.1 rfl (by simp [ab_cat, ab_cI, ab_cJ, ab_cD, ab_cF]) dX1_reckoned_129 (fun H1 locs1 S => ?_)
    obtain ⟨a37, e38, hF⟩ := bind_out hF
    obtain ⟨x34, h35, e36, hF⟩ := bnd_out hF
    refine ab_callVd X S e38 (c_X2_sum l D cA sz e36) rfl (by decide) mi_X2_sum lm_X1_96 li_yX2_sum ls_yX2_sum (As := [.double x22, .double x29]) (rest := []) rfl ⟨by decide, by decide⟩ ⟨by decide, by decide⟩ hl.1 rfl (by simp [ab_cat, ab_cI, ab_cJ, ab_cD, ab_cF]) dX1_reckoned_132 (fun H1 locs1 S => ?_)
    exact ab_dret X S hr hF dX1_reckoned_135
  have hF := ab_neg c18 hF
  by_cases c39 : x6 = 3
  · have hF := ab_pos c39 hF
    refine ab_tab (tgt := 136) X dX1_reckoned_22 c39 (by decide) (by decide) rfl (by decide) ?_
    refine ab_aload_n X dX1_reckoned_136 rfl (lv_at hl 2 rfl) ?_
    refine ab_getR X S hF fi_1_4 lf_X1_25 dX1_reckoned_137 (fun x40 hF => ?_)
    refine ab_aload_n X dX1_reckoned_140 rfl (lv_at hl 2 rfl) ?_
    refine ab_getR X S hF fi_1_4 lf_X1_25 dX1_reckoned_141 (fun x41 hF => ?_)
    refine ab_aload_n X dX1_reckoned_144 rfl (lv_at hl 2 rfl) ?_
    refine ab_getR X S hF fi_1_13 lf_X1_51 dX1_reckoned_145 (fun x42 hF => ?_)
    refine lv_iload X.1 X.2.1 dX1_reckoned_148 (lv_at hl 1 rfl) ?_
    obtain ⟨a46, e47, hF⟩ := bind_out hF
    obtain ⟨x43, h44, e45, hF⟩ := bnd_out hF
    refine ab_callVd X S e47 (c_X2_read l D cA sz e45) rfl (by decide) mi_X2_read lm_X1_92 li_yX2_read ls_yX2_read (As := [va_rf x42, .int x2]) (rest := [va_rf x40]) rfl ⟨by decide, by decide⟩ ⟨by decide, by decide⟩ hl.1 rfl (by simp [ab_cat, ab_cI, ab_cJ, ab_cD, ab_cF]) dX1_reckoned_150 (fun H1 locs1 S => ?_)
    refine ab_aload_n X dX1_reckoned_153 rfl (lv_at hl 2 rfl) ?_
    refine ab_getR X S hF fi_1_4 lf_X1_25 dX1_reckoned_154 (fun x48 hF => ?_)
    refine ab_aload_n X dX1_reckoned_157 rfl (lv_at hl 2 rfl) ?_
    refine ab_getR X S hF fi_1_13 lf_X1_51 dX1_reckoned_158 (fun x49 hF => ?_)
    refine lv_iload X.1 X.2.1 dX1_reckoned_161 (lv_at hl 0 rfl) ?_
    obtain ⟨a53, e54, hF⟩ := bind_out hF
    obtain ⟨x50, h51, e52, hF⟩ := bnd_out hF
    refine ab_callVd X S e54 (c_X2_read l D cA sz e52) rfl (by decide) mi_X2_read lm_X1_92 li_yX2_read ls_yX2_read (As := [va_rf x49, .int x4]) (rest := [.double x43, va_rf x40]) rfl ⟨by decide, by decide⟩ ⟨by decide, by decide⟩ hl.1 rfl (by simp [ab_cat, ab_cI, ab_cJ, ab_cD, ab_cF]) dX1_reckoned_163 (fun H1 locs1 S => ?_)
    obtain ⟨a58, e59, hF⟩ := bind_out hF
    obtain ⟨x55, h56, e57, hF⟩ := bnd_out hF
    refine ab_callVd X S e59 (c_X2_difference l D cA sz e57) rfl (by decide) mi_X2_difference lm_X1_100 li_yX2_difference ls_yX2_difference (As := [.double x43, .double x50]) (rest := []) rfl ⟨by decide, by decide⟩ ⟨by decide, by decide⟩ hl.1 rfl (by simp [ab_cat, ab_cI, ab_cJ, ab_cD, ab_cF]) dX1_reckoned_166 (fun H1 locs1 S => ?_)
    exact ab_dret X S hr hF dX1_reckoned_169
  have hF := ab_neg c39 hF
  by_cases c60 : x6 = 4
  · have hF := ab_pos c60 hF
    refine ab_tab (tgt := 170) X dX1_reckoned_22 c60 (by decide) (by decide) rfl (by decide) ?_
    refine ab_aload_n X dX1_reckoned_170 rfl (lv_at hl 2 rfl) ?_
    refine ab_getR X S hF fi_1_4 lf_X1_25 dX1_reckoned_171 (fun x61 hF => ?_)
    refine ab_aload_n X dX1_reckoned_174 rfl (lv_at hl 2 rfl) ?_
    refine ab_getR X S hF fi_1_4 lf_X1_25 dX1_reckoned_175 (fun x62 hF => ?_)
    refine ab_aload_n X dX1_reckoned_178 rfl (lv_at hl 2 rfl) ?_
    refine ab_getR X S hF fi_1_13 lf_X1_51 dX1_reckoned_179 (fun x63 hF => ?_)
    refine lv_iload X.1 X.2.1 dX1_reckoned_182 (lv_at hl 1 rfl) ?_
    obtain ⟨a67, e68, hF⟩ := bind_out hF
    obtain ⟨x64, h65, e66, hF⟩ := bnd_out hF
    refine ab_callVd X S e68 (c_X2_read l D cA sz e66) rfl (by decide) mi_X2_read lm_X1_92 li_yX2_read ls_yX2_read (As := [va_rf x63, .int x2]) (rest := [va_rf x61]) rfl ⟨by decide, by decide⟩ ⟨by decide, by decide⟩ hl.1 rfl (by simp [ab_cat, ab_cI, ab_cJ, ab_cD, ab_cF]) dX1_reckoned_184 (fun H1 locs1 S => ?_)
    refine ab_aload_n X dX1_reckoned_187 rfl (lv_at hl 2 rfl) ?_
    refine ab_getR X S hF fi_1_4 lf_X1_25 dX1_reckoned_188 (fun x69 hF => ?_)
    refine ab_aload_n X dX1_reckoned_191 rfl (lv_at hl 2 rfl) ?_
    refine ab_getR X S hF fi_1_13 lf_X1_51 dX1_reckoned_192 (fun x70 hF => ?_)
    refine lv_iload X.1 X.2.1 dX1_reckoned_195 (lv_at hl 0 rfl) ?_
    obtain ⟨a74, e75, hF⟩ := bind_out hF
    obtain ⟨x71, h72, e73, hF⟩ := bnd_out hF
    refine ab_callVd X S e75 (c_X2_read l D cA sz e73) rfl (by decide) mi_X2_read lm_X1_92 li_yX2_read ls_yX2_read (As := [va_rf x70, .int x4]) (rest := [.double x64, va_rf x61]) rfl ⟨by decide, by decide⟩ ⟨by decide, by decide⟩ hl.1 rfl (by simp [ab_cat, ab_cI, ab_cJ, ab_cD, ab_cF]) dX1_reckoned_197 (fun H1 locs1 S => ?_)
    obtain ⟨a79, e80, hF⟩ := bind_out hF
    obtain ⟨x76, h77, e78, hF⟩ := bnd_out hF
    refine ab_callVd X S e80 (c_X2_product l D cA sz e78) rfl (by decide) mi_X2_product lm_X1_103 li_yX2_product ls_yX2_product (As := [.double x64, .double x71]) (rest := []) rfl ⟨by decide, by decide⟩ ⟨by decide, by decide⟩ hl.1 rfl (by simp [ab_cat, ab_cI, ab_cJ, ab_cD, ab_cF]) dX1_reckoned_200 (fun H1 locs1 S => ?_)
    exact ab_dret X S hr hF dX1_reckoned_203
  have hF := ab_neg c60 hF
  by_cases c81 : x6 = 5
  · have hF := ab_pos c81 hF
    refine ab_tab (tgt := 204) X dX1_reckoned_22 c81 (by decide) (by decide) rfl (by decide) ?_
    refine ab_aload_n X dX1_reckoned_204 rfl (lv_at hl 2 rfl) ?_
    refine ab_getR X S hF fi_1_4 lf_X1_25 dX1_reckoned_205 (fun x82 hF => ?_)
    refine ab_aload_n X dX1_reckoned_208 rfl (lv_at hl 2 rfl) ?_
    refine ab_getR X S hF fi_1_4 lf_X1_25 dX1_reckoned_209 (fun x83 hF => ?_)
    refine ab_aload_n X dX1_reckoned_212 rfl (lv_at hl 2 rfl) ?_
    refine ab_getR X S hF fi_1_13 lf_X1_51 dX1_reckoned_213 (fun x84 hF => ?_)
    refine lv_iload X.1 X.2.1 dX1_reckoned_216 (lv_at hl 1 rfl) ?_
    obtain ⟨a88, e89, hF⟩ := bind_out hF
    obtain ⟨x85, h86, e87, hF⟩ := bnd_out hF
    refine ab_callVd X S e89 (c_X2_read l D cA sz e87) rfl (by decide) mi_X2_read lm_X1_92 li_yX2_read ls_yX2_read (As := [va_rf x84, .int x2]) (rest := [va_rf x82]) rfl ⟨by decide, by decide⟩ ⟨by decide, by decide⟩ hl.1 rfl (by simp [ab_cat, ab_cI, ab_cJ, ab_cD, ab_cF]) dX1_reckoned_218 (fun H1 locs1 S => ?_)
    refine ab_aload_n X dX1_reckoned_221 rfl (lv_at hl 2 rfl) ?_
    refine ab_getR X S hF fi_1_4 lf_X1_25 dX1_reckoned_222 (fun x90 hF => ?_)
    refine ab_aload_n X dX1_reckoned_225 rfl (lv_at hl 2 rfl) ?_
    refine ab_getR X S hF fi_1_13 lf_X1_51 dX1_reckoned_226 (fun x91 hF => ?_)
    refine lv_iload X.1 X.2.1 dX1_reckoned_229 (lv_at hl 0 rfl) ?_
    obtain ⟨a95, e96, hF⟩ := bind_out hF
    obtain ⟨x92, h93, e94, hF⟩ := bnd_out hF
    refine ab_callVd X S e96 (c_X2_read l D cA sz e94) rfl (by decide) mi_X2_read lm_X1_92 li_yX2_read ls_yX2_read (As := [va_rf x91, .int x4]) (rest := [.double x85, va_rf x82]) rfl ⟨by decide, by decide⟩ ⟨by decide, by decide⟩ hl.1 rfl (by simp [ab_cat, ab_cI, ab_cJ, ab_cD, ab_cF]) dX1_reckoned_231 (fun H1 locs1 S => ?_)
    obtain ⟨a100, e101, hF⟩ := bind_out hF
    obtain ⟨x97, h98, e99, hF⟩ := bnd_out hF
    refine ab_callVd X S e101 (c_X2_quotient l D cA sz e99) rfl (by decide) mi_X2_quotient lm_X1_106 li_yX2_quotient ls_yX2_quotient (As := [.double x85, .double x92]) (rest := []) rfl ⟨by decide, by decide⟩ ⟨by decide, by decide⟩ hl.1 rfl (by simp [ab_cat, ab_cI, ab_cJ, ab_cD, ab_cF]) dX1_reckoned_234 (fun H1 locs1 S => ?_)
    exact ab_dret X S hr hF dX1_reckoned_237
  have hF := ab_neg c81 hF
  by_cases c102 : x6 = 6
  · have hF := ab_pos c102 hF
    refine ab_tab (tgt := 238) X dX1_reckoned_22 c102 (by decide) (by decide) rfl (by decide) ?_
    refine ab_aload_n X dX1_reckoned_238 rfl (lv_at hl 2 rfl) ?_
    refine ab_getR X S hF fi_1_4 lf_X1_25 dX1_reckoned_239 (fun x103 hF => ?_)
    refine ab_aload_n X dX1_reckoned_242 rfl (lv_at hl 2 rfl) ?_
    refine ab_getR X S hF fi_1_13 lf_X1_51 dX1_reckoned_243 (fun x104 hF => ?_)
    refine lv_iload X.1 X.2.1 dX1_reckoned_246 (lv_at hl 1 rfl) ?_
    obtain ⟨a108, e109, hF⟩ := bind_out hF
    obtain ⟨x105, h106, e107, hF⟩ := bnd_out hF
    refine ab_callVd X S e109 (c_X2_read l D cA sz e107) rfl (by decide) mi_X2_read lm_X1_92 li_yX2_read ls_yX2_read (As := [va_rf x104, .int x2]) (rest := []) rfl ⟨by decide, by decide⟩ ⟨by decide, by decide⟩ hl.1 rfl (by simp [ab_cat, ab_cI, ab_cJ, ab_cD, ab_cF]) dX1_reckoned_248 (fun H1 locs1 S => ?_)
    refine lv_dneg X.1 X.2.1 dX1_reckoned_251 ?_
    exact ab_dret X S hr hF dX1_reckoned_252
  have hF := ab_neg c102 hF
  by_cases c110 : x6 = 7
  · have hF := ab_pos c110 hF
    refine ab_tab (tgt := 253) X dX1_reckoned_22 c110 (by decide) (by decide) rfl (by decide) ?_
    refine ab_aload_n X dX1_reckoned_253 rfl (lv_at hl 2 rfl) ?_
    refine ab_getR X S hF fi_1_4 lf_X1_25 dX1_reckoned_254 (fun x111 hF => ?_)
    refine ab_aload_n X dX1_reckoned_257 rfl (lv_at hl 2 rfl) ?_
    refine ab_getR X S hF fi_1_13 lf_X1_51 dX1_reckoned_258 (fun x112 hF => ?_)
    refine lv_iload X.1 X.2.1 dX1_reckoned_261 (lv_at hl 1 rfl) ?_
    obtain ⟨a116, e117, hF⟩ := bind_out hF
    obtain ⟨x113, h114, e115, hF⟩ := bnd_out hF
    refine ab_callVd X S e117 (c_X2_read l D cA sz e115) rfl (by decide) mi_X2_read lm_X1_92 li_yX2_read ls_yX2_read (As := [va_rf x112, .int x2]) (rest := []) rfl ⟨by decide, by decide⟩ ⟨by decide, by decide⟩ hl.1 rfl (by simp [ab_cat, ab_cI, ab_cJ, ab_cD, ab_cF]) dX1_reckoned_263 (fun H1 locs1 S => ?_)
    obtain ⟨x118, h119, e120, hF⟩ := bnd_out hF
    refine ab_callSNd X S (c_X8_size l D cA sz e120) mi_X8_size X.2.2.2.2.2.1.2.2.1.1 lt_yX8_size (As := [.double x113]) (rest := []) rfl ⟨by decide, by decide⟩ ⟨by decide, by decide⟩ hl.1 rfl (by simp [ab_cat, ab_cI, ab_cJ, ab_cD, ab_cF]) dX1_reckoned_266 (fun H1 locs1 S => ?_)
    exact ab_dret X S hr hF dX1_reckoned_269
  have hF := ab_neg c110 hF
  by_cases c121 : x6 = 8
  · have hF := ab_pos c121 hF
    refine ab_tab (tgt := 270) X dX1_reckoned_22 c121 (by decide) (by decide) rfl (by decide) ?_
    refine ab_aload_n X dX1_reckoned_270 rfl (lv_at hl 2 rfl) ?_
    refine ab_getR X S hF fi_1_4 lf_X1_25 dX1_reckoned_271 (fun x122 hF => ?_)
    refine ab_aload_n X dX1_reckoned_274 rfl (lv_at hl 2 rfl) ?_
    refine ab_getR X S hF fi_1_4 lf_X1_25 dX1_reckoned_275 (fun x123 hF => ?_)
    refine ab_aload_n X dX1_reckoned_278 rfl (lv_at hl 2 rfl) ?_
    refine ab_getR X S hF fi_1_13 lf_X1_51 dX1_reckoned_279 (fun x124 hF => ?_)
    refine lv_iload X.1 X.2.1 dX1_reckoned_282 (lv_at hl 1 rfl) ?_
    obtain ⟨a128, e129, hF⟩ := bind_out hF
    obtain ⟨x125, h126, e127, hF⟩ := bnd_out hF
    refine ab_callVd X S e129 (c_X2_read l D cA sz e127) rfl (by decide) mi_X2_read lm_X1_92 li_yX2_read ls_yX2_read (As := [va_rf x124, .int x2]) (rest := [va_rf x122]) rfl ⟨by decide, by decide⟩ ⟨by decide, by decide⟩ hl.1 rfl (by simp [ab_cat, ab_cI, ab_cJ, ab_cD, ab_cF]) dX1_reckoned_284 (fun H1 locs1 S => ?_)
    refine ab_aload_n X dX1_reckoned_287 rfl (lv_at hl 2 rfl) ?_
    refine ab_getR X S hF fi_1_4 lf_X1_25 dX1_reckoned_288 (fun x130 hF => ?_)
    refine ab_aload_n X dX1_reckoned_291 rfl (lv_at hl 2 rfl) ?_
    refine ab_getR X S hF fi_1_13 lf_X1_51 dX1_reckoned_292 (fun x131 hF => ?_)
    refine lv_iload X.1 X.2.1 dX1_reckoned_295 (lv_at hl 0 rfl) ?_
    obtain ⟨a135, e136, hF⟩ := bind_out hF
    obtain ⟨x132, h133, e134, hF⟩ := bnd_out hF
    refine ab_callVd X S e136 (c_X2_read l D cA sz e134) rfl (by decide) mi_X2_read lm_X1_92 li_yX2_read ls_yX2_read (As := [va_rf x131, .int x4]) (rest := [.double x125, va_rf x122]) rfl ⟨by decide, by decide⟩ ⟨by decide, by decide⟩ hl.1 rfl (by simp [ab_cat, ab_cI, ab_cJ, ab_cD, ab_cF]) dX1_reckoned_297 (fun H1 locs1 S => ?_)
    obtain ⟨a140, e141, hF⟩ := bind_out hF
    obtain ⟨x137, h138, e139, hF⟩ := bnd_out hF
    refine ab_callVd X S e141 (c_X2_lesser l D cA sz e139) rfl (by decide) mi_X2_lesser lm_X1_113 li_yX2_lesser ls_yX2_lesser (As := [.double x125, .double x132]) (rest := []) rfl ⟨by decide, by decide⟩ ⟨by decide, by decide⟩ hl.1 rfl (by simp [ab_cat, ab_cI, ab_cJ, ab_cD, ab_cF]) dX1_reckoned_300 (fun H1 locs1 S => ?_)
    exact ab_dret X S hr hF dX1_reckoned_303
  have hF := ab_neg c121 hF
  by_cases c142 : x6 = 9
  · have hF := ab_pos c142 hF
    refine ab_tab (tgt := 304) X dX1_reckoned_22 c142 (by decide) (by decide) rfl (by decide) ?_
    refine ab_aload_n X dX1_reckoned_304 rfl (lv_at hl 2 rfl) ?_
    refine ab_getR X S hF fi_1_4 lf_X1_25 dX1_reckoned_305 (fun x143 hF => ?_)
    refine ab_aload_n X dX1_reckoned_308 rfl (lv_at hl 2 rfl) ?_
    refine ab_getR X S hF fi_1_4 lf_X1_25 dX1_reckoned_309 (fun x144 hF => ?_)
    refine ab_aload_n X dX1_reckoned_312 rfl (lv_at hl 2 rfl) ?_
    refine ab_getR X S hF fi_1_13 lf_X1_51 dX1_reckoned_313 (fun x145 hF => ?_)
    refine lv_iload X.1 X.2.1 dX1_reckoned_316 (lv_at hl 1 rfl) ?_
    obtain ⟨a149, e150, hF⟩ := bind_out hF
    obtain ⟨x146, h147, e148, hF⟩ := bnd_out hF
    refine ab_callVd X S e150 (c_X2_read l D cA sz e148) rfl (by decide) mi_X2_read lm_X1_92 li_yX2_read ls_yX2_read (As := [va_rf x145, .int x2]) (rest := [va_rf x143]) rfl ⟨by decide, by decide⟩ ⟨by decide, by decide⟩ hl.1 rfl (by simp [ab_cat, ab_cI, ab_cJ, ab_cD, ab_cF]) dX1_reckoned_318 (fun H1 locs1 S => ?_)
    refine ab_aload_n X dX1_reckoned_321 rfl (lv_at hl 2 rfl) ?_
    refine ab_getR X S hF fi_1_4 lf_X1_25 dX1_reckoned_322 (fun x151 hF => ?_)
    refine ab_aload_n X dX1_reckoned_325 rfl (lv_at hl 2 rfl) ?_
    refine ab_getR X S hF fi_1_13 lf_X1_51 dX1_reckoned_326 (fun x152 hF => ?_)
    refine lv_iload X.1 X.2.1 dX1_reckoned_329 (lv_at hl 0 rfl) ?_
    obtain ⟨a156, e157, hF⟩ := bind_out hF
    obtain ⟨x153, h154, e155, hF⟩ := bnd_out hF
    refine ab_callVd X S e157 (c_X2_read l D cA sz e155) rfl (by decide) mi_X2_read lm_X1_92 li_yX2_read ls_yX2_read (As := [va_rf x152, .int x4]) (rest := [.double x146, va_rf x143]) rfl ⟨by decide, by decide⟩ ⟨by decide, by decide⟩ hl.1 rfl (by simp [ab_cat, ab_cI, ab_cJ, ab_cD, ab_cF]) dX1_reckoned_331 (fun H1 locs1 S => ?_)
    obtain ⟨a161, e162, hF⟩ := bind_out hF
    obtain ⟨x158, h159, e160, hF⟩ := bnd_out hF
    refine ab_callVd X S e162 (c_X2_greater l D cA sz e160) rfl (by decide) mi_X2_greater lm_X1_116 li_yX2_greater ls_yX2_greater (As := [.double x146, .double x153]) (rest := []) rfl ⟨by decide, by decide⟩ ⟨by decide, by decide⟩ hl.1 rfl (by simp [ab_cat, ab_cI, ab_cJ, ab_cD, ab_cF]) dX1_reckoned_334 (fun H1 locs1 S => ?_)
    exact ab_dret X S hr hF dX1_reckoned_337
  have hF := ab_neg c142 hF
  by_cases c163 : x6 = 10
  · have hF := ab_pos c163 hF
    refine ab_tab (tgt := 338) X dX1_reckoned_22 c163 (by decide) (by decide) rfl (by decide) ?_
    refine ab_aload_n X dX1_reckoned_338 rfl (lv_at hl 2 rfl) ?_
    refine ab_getR X S hF fi_1_4 lf_X1_25 dX1_reckoned_339 (fun x164 hF => ?_)
    refine ab_aload_n X dX1_reckoned_342 rfl (lv_at hl 2 rfl) ?_
    refine ab_getR X S hF fi_1_13 lf_X1_51 dX1_reckoned_343 (fun x165 hF => ?_)
    refine ab_aload_n X dX1_reckoned_346 rfl (lv_at hl 2 rfl) ?_
    refine lv_iload X.1 X.2.1 dX1_reckoned_347 (lv_at hl 1 rfl) ?_
    obtain ⟨a169, e170, hF⟩ := bind_out hF
    obtain ⟨x166, h167, e168, hF⟩ := bnd_out hF
    refine ab_callVi X S e170 (c_X1_signOf l D cA sz e168) rfl (by decide) mi_X1_signOf lm_X1_119 li_yX1_signOf ls_yX1_signOf (As := [.int x2]) (rest := [va_rf x165, va_rf x164]) rfl ⟨by decide, by decide⟩ ⟨by decide, by decide⟩ hl.1 rfl (by simp [ab_cat, ab_cI, ab_cJ, ab_cD, ab_cF]) dX1_reckoned_349 (fun H1 locs1 S => ?_)
    refine lv_iconst (v := (-1)) X.1 X.2.1 dX1_reckoned_352 (by decide) ?_
    refine lv_icmp_ne (tgt := 361) X.1 X.2.1 dX1_reckoned_353 (by decide) (fun c171 => ?_) (fun c171 => ?_)
    · have hF := ab_pos c171 hF
      refine ab_aload_n X dX1_reckoned_361 rfl (lv_at hl 2 rfl) ?_
      refine ab_getR X S hF fi_1_8 lf_X1_39 dX1_reckoned_362 (fun x172 hF => ?_)
      refine lv_iload_n X.1 X.2.1 dX1_reckoned_365 rfl (lv_at hl 3 rfl) ?_
      refine ab_aldI X S hF dX1_reckoned_366 (fun x173 hF => ?_)
      exact w_X1_reckoned_367 X hr  S (lv_sub hl [] rfl) hF
    · have hF := ab_neg (fun q => q c171) hF
      refine lv_iload X.1 X.2.1 dX1_reckoned_356 (lv_at hl 0 rfl) ?_
      refine lv_goto (tgt := 367) X.1 X.2.1 dX1_reckoned_358 (by decide) ?_
      exact w_X1_reckoned_367 X hr  S (lv_sub hl [] rfl) hF
  have hF := ab_neg c163 hF
  by_cases c174 : x6 = 11
  · have hF := ab_pos c174 hF
    refine ab_tab (tgt := 371) X dX1_reckoned_22 c174 (by decide) (by decide) rfl (by decide) ?_
    refine lv_iload X.1 X.2.1 dX1_reckoned_371 (lv_at hl 0 rfl) ?_
    refine lv_if_ne (tgt := 380) X.1 X.2.1 dX1_reckoned_373 (by decide) (fun c175 => ?_) (fun c175 => ?_)
    · have hF := ab_pos c175 hF
      refine ab_aload_n X dX1_reckoned_380 rfl (lv_at hl 2 rfl) ?_
      refine ab_getR X S hF fi_1_4 lf_X1_25 dX1_reckoned_381 (fun x176 hF => ?_)
      refine ab_aload_n X dX1_reckoned_384 rfl (lv_at hl 2 rfl) ?_
      refine ab_getR X S hF fi_1_4 lf_X1_25 dX1_reckoned_385 (fun x177 hF => ?_)
      refine ab_aload_n X dX1_reckoned_388 rfl (lv_at hl 2 rfl) ?_
      refine ab_getR X S hF fi_1_13 lf_X1_51 dX1_reckoned_389 (fun x178 hF => ?_)
      refine lv_iload X.1 X.2.1 dX1_reckoned_392 (lv_at hl 1 rfl) ?_
      obtain ⟨a182, e183, hF⟩ := bind_out hF
      obtain ⟨x179, h180, e181, hF⟩ := bnd_out hF
      refine ab_callVd X S e183 (c_X2_read l D cA sz e181) rfl (by decide) mi_X2_read lm_X1_92 li_yX2_read ls_yX2_read (As := [va_rf x178, .int x2]) (rest := [va_rf x176]) rfl ⟨by decide, by decide⟩ ⟨by decide, by decide⟩ hl.1 rfl (by simp [ab_cat, ab_cI, ab_cJ, ab_cD, ab_cF]) dX1_reckoned_394 (fun H1 locs1 S => ?_)
      refine lv_iload X.1 X.2.1 dX1_reckoned_397 (lv_at hl 0 rfl) ?_
      obtain ⟨a187, e188, hF⟩ := bind_out hF
      obtain ⟨x184, h185, e186, hF⟩ := bnd_out hF
      refine ab_callVd X S e188 (c_X2_power l D cA sz e186) rfl (by decide) mi_X2_power lm_X1_123 li_yX2_power ls_yX2_power (As := [.double x179, .int x4]) (rest := []) rfl ⟨by decide, by decide⟩ ⟨by decide, by decide⟩ hl.1 rfl (by simp [ab_cat, ab_cI, ab_cJ, ab_cD, ab_cF]) dX1_reckoned_399 (fun H1 locs1 S => ?_)
      exact w_X1_reckoned_402 X hr  S (lv_sub hl [] rfl) hF
    · have hF := ab_neg (fun q => q c175) hF
      refine lv_dconst1 X.1 X.2.1 dX1_reckoned_376 ?_
      refine lv_goto (tgt := 402) X.1 X.2.1 dX1_reckoned_377 (by decide) ?_
      exact w_X1_reckoned_402 X hr  S (lv_sub hl [] rfl) hF
  have hF := ab_neg c174 hF
  by_cases c189 : x6 = 12
  · have hF := ab_pos c189 hF
    refine ab_tab (tgt := 403) X dX1_reckoned_22 c189 (by decide) (by decide) rfl (by decide) ?_
    refine ab_aload_n X dX1_reckoned_403 rfl (lv_at hl 2 rfl) ?_
    refine ab_getR X S hF fi_1_3 lf_X1_21 dX1_reckoned_404 (fun x190 hF => ?_)
    refine lv_iload X.1 X.2.1 dX1_reckoned_407 (lv_at hl 0 rfl) ?_
    refine ab_aldR X S hF rfl (by decide) dX1_reckoned_409 (fun x191 hF => ?_)
    refine ab_astore (lv' := [(7, va_rf x191), (6, .int x4), (5, .int x2), (0, va_rf (some this)), (1, .int p0), (2, .double p1), (4, va_rf p2)]) X dX1_reckoned_410 hl (by decide) (by simp [ab_cat, ab_cI, ab_cJ, ab_cD, ab_cF]) (fun ls hl => ?_)
    refine ab_aload X dX1_reckoned_412 (lv_at hl 0 rfl) ?_
    refine ab_ifnull (tgt := 425) X dX1_reckoned_414 (by decide) (fun c192 => ?_) (fun c192 => ?_)
    · have hF := ab_pos c192 hF
      exact w_X1_reckoned_425 X hr  S (lv_sub hl [] rfl) hF
    · have hF := ab_neg c192 hF
      refine ab_aload X dX1_reckoned_417 (lv_at hl 0 rfl) ?_
      refine ab_getI X S hF fi_5_3 lf_X1_127 dX1_reckoned_419 (fun x193 hF => ?_)
      refine lv_if_ne (tgt := 429) X.1 X.2.1 dX1_reckoned_422 (by decide) (fun c194 => ?_) (fun c194 => ?_)
      · have hF := ab_pos c194 hF
        refine ab_aload X dX1_reckoned_429 (lv_at hl 0 rfl) ?_
        refine ab_aload_n X dX1_reckoned_431 rfl (lv_at hl 3 rfl) ?_
        refine ab_getR X S hF fi_1_4 lf_X1_25 dX1_reckoned_432 (fun x195 hF => ?_)
        refine ab_aload_n X dX1_reckoned_435 rfl (lv_at hl 3 rfl) ?_
        refine ab_getR X S hF fi_1_13 lf_X1_51 dX1_reckoned_436 (fun x196 hF => ?_)
        refine lv_iload X.1 X.2.1 dX1_reckoned_439 (lv_at hl 2 rfl) ?_
        obtain ⟨a200, e201, hF⟩ := bind_out hF
        obtain ⟨x197, h198, e199, hF⟩ := bnd_out hF
        refine ab_callVd X S e201 (c_X2_read l D cA sz e199) rfl (by decide) mi_X2_read lm_X1_92 li_yX2_read ls_yX2_read (As := [va_rf x196, .int x2]) (rest := [va_rf x191]) rfl ⟨by decide, by decide⟩ ⟨by decide, by decide⟩ hl.1 rfl (by simp [ab_cat, ab_cI, ab_cJ, ab_cD, ab_cF]) dX1_reckoned_441 (fun H1 locs1 S => ?_)
        obtain ⟨a205, e206, hF⟩ := bind_out hF
        obtain ⟨x202, h203, e204, hF⟩ := bnd_out hF
        refine ab_callVd X S e206 (c_X5_heightAt l D cA sz e204) rfl (by decide) mi_X5_heightAt lm_X1_132 li_yX5_heightAt ls_yX5_heightAt (As := [.double x197]) (rest := []) rfl ⟨by decide, by decide⟩ ⟨by decide, by decide⟩ hl.1 rfl (by simp [ab_cat, ab_cI, ab_cJ, ab_cD, ab_cF]) dX1_reckoned_444 (fun H1 locs1 S => ?_)
        exact w_X1_reckoned_447 X hr  S (lv_sub hl [] rfl) hF
      · have hF := ab_neg (fun q => q c194) hF
        exact w_X1_reckoned_425 X hr  S (lv_sub hl [] rfl) hF
  have hF := ab_neg c189 hF
  cases hF
def f_X4_copy (this : Nat) (p0 : Option Nat) (h : Hp) : Option (Unit × Hp) :=
  (getR h p0 4 0).bind fun x1 =>
  (putR h (some this) 4 0 x1).bind fun h2 =>
  (getD h2 p0 4 1).bind fun x3 =>
  (putD h2 (some this) 4 1 x3).bind fun h4 =>
  (getR h4 (some this) 4 2).bind fun x5 =>
  (getR h4 p0 4 2).bind fun x6 =>
  (ab_ck h4 x5 (3, 0)).bind fun a10 =>
  bnd (f_X3_copy a10 x6 h4) fun _ h8 =>
  (getI h8 p0 4 3).bind fun x12 =>
  (putI h8 (some this) 4 3 x12).bind fun h13 =>
  (getD h13 p0 4 4).bind fun x14 =>
  (putD h13 (some this) 4 4 x14).bind fun h15 =>
  (getD h15 p0 4 5).bind fun x16 =>
  (putD h15 (some this) 4 5 x16).bind fun h17 =>
  (getD h17 p0 4 6).bind fun x18 =>
  (putD h17 (some this) 4 6 x18).bind fun h19 =>
  (getI h19 p0 4 7).bind fun x20 =>
  (putZ h19 (some this) 4 7 x20).bind fun h21 =>
  (getI h21 p0 4 8).bind fun x22 =>
  (putI h21 (some this) 4 8 x22).bind fun h23 =>
  (getI h23 p0 4 9).bind fun x24 =>
  (putI h23 (some this) 4 9 x24).bind fun h25 =>
  (getR h25 (some this) 4 10).bind fun x26 =>
  (getR h25 p0 4 10).bind fun x27 =>
  (ab_ck h25 x26 (0, 0)).bind fun a31 =>
  bnd (f_X0_copy a31 x27 h25) fun _ h29 =>
  (getR h29 (some this) 4 11).bind fun x33 =>
  (getR h29 p0 4 11).bind fun x34 =>
  (ab_ck h29 x33 (6, 0)).bind fun a38 =>
  bnd (f_X6_copy a38 x34 h29) fun _ h36 =>
  some ((), h36)
theorem mi_X4_copy : ab_MI yX4_copy cX4_copy 2 none 1 := ⟨lc_yX4_copy, lz_RX4, by decide, by decide, by decide +kernel⟩
set_option maxHeartbeats 4000000 in
set_option maxRecDepth 100000 in
theorem c_X4_copy (l : Launch) (D : va_G) (cA : Nat → ClassId) (sz : Nat) {this : Nat} {p0 : Option Nat} {h hh : Hp}  (hF : f_X4_copy this p0 h = some ((), hh)) : ab_C l D cA sz yX4_copy cX4_copy 2 none 2 0 0 [.ref this, va_rf p0] h none hh := by
  refine Met.ofW (cc := cX4_copy) (maxL := 2) (ret := none) (by decide) rfl ?_
  intro p e s m args below meth c s₁ B hml hv
  obtain ⟨rfl, hT, hR⟩ := hv
  have X : ab_X p s m _ meth c cX4_copy 2 RX4 D cA sz := (ab_enter B hml hT hR).1
  have S := (ab_enter B hml hT hR).2
  have hr := B.returns
  obtain ⟨ls, hls, hl⟩ := ab_entry m [.ref this, va_rf p0] 2 (lv := [(0, .ref this), (1, va_rf p0)]) (by simp [lg_sl, ab_cat, ab_cI, ab_cJ, ab_cD, ab_cF, ab_cA]) (by simp [lv_args, ab_cat, ab_cI, ab_cJ, ab_cD, ab_cF, ab_cA])
  rw [hls]
  have hl : lv_has ls 2 [(0, va_rf (some this)), (1, va_rf p0)] := hl
  unfold f_X4_copy at hF
  show W p l e (ab_rm 2 0 0) s m _ below meth c s.heap [] 0 0 _ _
  refine ab_aload_n X dX4_copy_0 rfl (lv_at hl 0 rfl) ?_
  refine ab_aload_n X dX4_copy_1 rfl (lv_at hl 1 rfl) ?_
  refine ab_getR X S hF fi_4_0 lf_X4_9 dX4_copy_2 (fun x1 hF => ?_)
  refine ab_putR X S hF fi_4_0 ci_4 (Or.inl rfl) (fun q => by cases q <;> rfl) (fun q => by cases q <;> rfl) lf_X4_9 dX4_copy_5 (fun h2 H1 locs1 hF S => ?_)
  refine ab_aload_n X dX4_copy_8 rfl (lv_at hl 0 rfl) ?_
  refine ab_aload_n X dX4_copy_9 rfl (lv_at hl 1 rfl) ?_
  refine ab_getD X S hF fi_4_1 lf_X4_15 dX4_copy_10 (fun x3 hF => ?_)
  refine ab_putD X S hF fi_4_1 ci_4 (Or.inl rfl) rfl lf_X4_15 dX4_copy_13 (fun h4 H1 locs1 hF S => ?_)
  refine ab_aload_n X dX4_copy_16 rfl (lv_at hl 0 rfl) ?_
  refine ab_getR X S hF fi_4_2 lf_X4_24 dX4_copy_17 (fun x5 hF => ?_)
  refine ab_aload_n X dX4_copy_20 rfl (lv_at hl 1 rfl) ?_
  refine ab_getR X S hF fi_4_2 lf_X4_24 dX4_copy_21 (fun x6 hF => ?_)
  obtain ⟨a10, e11, hF⟩ := bind_out hF
  obtain ⟨x7, h8, e9, hF⟩ := bnd_out hF
  refine ab_callVv X S e11 (c_X3_copy l D cA sz e9) rfl (by decide) mi_X3_copy lm_X4_61 li_yX3_copy ls_yX3_copy (As := [va_rf x6]) (rest := []) rfl ⟨by decide, by decide⟩ ⟨by decide, by decide⟩ hl.1 rfl (by simp [ab_cat, ab_cI, ab_cJ, ab_cD, ab_cF]) dX4_copy_24 (fun H1 locs1 S => ?_)
  refine ab_aload_n X dX4_copy_27 rfl (lv_at hl 0 rfl) ?_
  refine ab_aload_n X dX4_copy_28 rfl (lv_at hl 1 rfl) ?_
  refine ab_getI X S hF fi_4_3 lf_X4_28 dX4_copy_29 (fun x12 hF => ?_)
  refine ab_putI X S hF fi_4_3 ci_4 (Or.inl rfl) rfl lf_X4_28 dX4_copy_32 (fun h13 H1 locs1 hF S => ?_)
  refine ab_aload_n X dX4_copy_35 rfl (lv_at hl 0 rfl) ?_
  refine ab_aload_n X dX4_copy_36 rfl (lv_at hl 1 rfl) ?_
  refine ab_getD X S hF fi_4_4 lf_X4_34 dX4_copy_37 (fun x14 hF => ?_)
  refine ab_putD X S hF fi_4_4 ci_4 (Or.inl rfl) rfl lf_X4_34 dX4_copy_40 (fun h15 H1 locs1 hF S => ?_)
  refine ab_aload_n X dX4_copy_43 rfl (lv_at hl 0 rfl) ?_
  refine ab_aload_n X dX4_copy_44 rfl (lv_at hl 1 rfl) ?_
  refine ab_getD X S hF fi_4_5 lf_X4_39 dX4_copy_45 (fun x16 hF => ?_)
  refine ab_putD X S hF fi_4_5 ci_4 (Or.inl rfl) rfl lf_X4_39 dX4_copy_48 (fun h17 H1 locs1 hF S => ?_)
  refine ab_aload_n X dX4_copy_51 rfl (lv_at hl 0 rfl) ?_
  refine ab_aload_n X dX4_copy_52 rfl (lv_at hl 1 rfl) ?_
  refine ab_getD X S hF fi_4_6 lf_X4_42 dX4_copy_53 (fun x18 hF => ?_)
  refine ab_putD X S hF fi_4_6 ci_4 (Or.inl rfl) rfl lf_X4_42 dX4_copy_56 (fun h19 H1 locs1 hF S => ?_)
  refine ab_aload_n X dX4_copy_59 rfl (lv_at hl 0 rfl) ?_
  refine ab_aload_n X dX4_copy_60 rfl (lv_at hl 1 rfl) ?_
  refine ab_getI X S hF fi_4_7 lf_X4_65 dX4_copy_61 (fun x20 hF => ?_)
  refine ab_putZ X S hF fi_4_7 ci_4 (Or.inl rfl) rfl lf_X4_65 dX4_copy_64 (fun h21 H1 locs1 hF S => ?_)
  refine ab_aload_n X dX4_copy_67 rfl (lv_at hl 0 rfl) ?_
  refine ab_aload_n X dX4_copy_68 rfl (lv_at hl 1 rfl) ?_
  refine ab_getI X S hF fi_4_8 lf_X4_69 dX4_copy_69 (fun x22 hF => ?_)
  refine ab_putI X S hF fi_4_8 ci_4 (Or.inl rfl) rfl lf_X4_69 dX4_copy_72 (fun h23 H1 locs1 hF S => ?_)
  refine ab_aload_n X dX4_copy_75 rfl (lv_at hl 0 rfl) ?_
  refine ab_aload_n X dX4_copy_76 rfl (lv_at hl 1 rfl) ?_
  refine ab_getI X S hF fi_4_9 lf_X4_72 dX4_copy_77 (fun x24 hF => ?_)
  refine ab_putI X S hF fi_4_9 ci_4 (Or.inl rfl) rfl lf_X4_72 dX4_copy_80 (fun h25 H1 locs1 hF S => ?_)
  refine ab_aload_n X dX4_copy_83 rfl (lv_at hl 0 rfl) ?_
  refine ab_getR X S hF fi_4_10 lf_X4_48 dX4_copy_84 (fun x26 hF => ?_)
  refine ab_aload_n X dX4_copy_87 rfl (lv_at hl 1 rfl) ?_
  refine ab_getR X S hF fi_4_10 lf_X4_48 dX4_copy_88 (fun x27 hF => ?_)
  obtain ⟨a31, e32, hF⟩ := bind_out hF
  obtain ⟨x28, h29, e30, hF⟩ := bnd_out hF
  refine ab_callVv X S e32 (c_X0_copy l D cA sz e30) rfl (by decide) mi_X0_copy lm_X4_75 li_yX0_copy ls_yX0_copy (As := [va_rf x27]) (rest := []) rfl ⟨by decide, by decide⟩ ⟨by decide, by decide⟩ hl.1 rfl (by simp [ab_cat, ab_cI, ab_cJ, ab_cD, ab_cF]) dX4_copy_91 (fun H1 locs1 S => ?_)
  refine ab_aload_n X dX4_copy_94 rfl (lv_at hl 0 rfl) ?_
  refine ab_getR X S hF fi_4_11 lf_X4_57 dX4_copy_95 (fun x33 hF => ?_)
  refine ab_aload_n X dX4_copy_98 rfl (lv_at hl 1 rfl) ?_
  refine ab_getR X S hF fi_4_11 lf_X4_57 dX4_copy_99 (fun x34 hF => ?_)
  obtain ⟨a38, e39, hF⟩ := bind_out hF
  obtain ⟨x35, h36, e37, hF⟩ := bnd_out hF
  refine ab_callVv X S e39 (c_X6_copy l D cA sz e37) rfl (by decide) mi_X6_copy lm_X4_78 li_yX6_copy ls_yX6_copy (As := [va_rf x34]) (rest := []) rfl ⟨by decide, by decide⟩ ⟨by decide, by decide⟩ hl.1 rfl (by simp [ab_cat, ab_cI, ab_cJ, ab_cD, ab_cF]) dX4_copy_102 (fun H1 locs1 S => ?_)
  exact ab_vret X S hr hF dX4_copy_105
