def f_X9_looksAtEvents_122 (k_26 : Option Nat → Int32 → Int32 → Hp → Option (Unit × Hp)) (v0 : Option Nat) (v1 : Int32) (u0 : Int32) (h : Hp) : Option (Unit × Hp) :=
  k_26 v0 v1 u0 h
set_option maxHeartbeats 4000000 in
set_option maxRecDepth 100000 in
theorem w_X9_looksAtEvents_122 {p : Program} {l : Launch} {e : Env} {s : State} {m : MethodId} {args : Array Value} {below : List Frame} {meth : Method} {c : Code} {D : va_G} {cA : Nat → ClassId} {sz : Nat}  {hh : Hp} {k_26 : Option Nat → Int32 → Int32 → Hp → Option (Unit × Hp)} (X : ab_X p s m args meth c cX9_looksAtEvents 5 RX9 D cA sz) (hr : meth.sig.returnType = none) (hk_26 : ∀ (v0 : Option Nat) (v1 : Int32) (v2 : Int32) (h : Hp) (H : Heap) (locs : List Loc) (ls : Array Slot), ab_H D cA sz h s H locs → lv_has ls 5 [(0, va_rf v0), (1, .int v1), (2, .int v2)] → k_26 v0 v1 v2 h = some ((), hh) → W p l e (ab_rm 7 0 0) s m args below meth c H locs 0 0 (MQ below (ab_Q D cA sz none hh) args s 0 0 (fun q => sz ≤ q)) (F0 m 26 ls [])) {H : Heap} {locs : List Loc} {ls : Array Slot} {v0 : Option Nat} {v1 : Int32} {u0 : Int32} {h : Hp} (S : ab_H D cA sz h s H locs) (hl : lv_has ls 5 [(0, va_rf v0), (1, .int v1)]) (hF : f_X9_looksAtEvents_122 k_26 v0 v1 u0 h = some ((), hh)) : W p l e (ab_rm 7 0 0) s m args below meth c H locs 0 0 (MQ below (ab_Q D cA sz none hh) args s 0 0 (fun q => sz ≤ q)) (F0 m 122 ls [.int u0]) := by
  unfold f_X9_looksAtEvents_122 at hF
  refine lv_istore_n (i := 2) (lv' := [(2, .int u0), (0, va_rf v0), (1, .int v1)]) X.1 X.2.1 dX9_looksAtEvents_122 rfl hl (by decide) (by simp [ab_cat, ab_cI, ab_cJ, ab_cD, ab_cF]) (fun ls hl => ?_)
  refine lv_goto (tgt := 26) X.1 X.2.1 dX9_looksAtEvents_123 (by decide) ?_
  exact hk_26 _ _ _ _ _ _ _ S (lv_sub hl [1, 2, 0] rfl) hF
def f_X9_looksAtEvents_80 (k_26 : Option Nat → Int32 → Int32 → Hp → Option (Unit × Hp)) (k_35 : Option Nat → Int32 → Int32 → Int32 → Hp → Option (Unit × Hp)) (v0 : Option Nat) (v1 : Int32) (v3 : Int32) (v4 : Int32) (h : Hp) : Option (Unit × Hp) :=
  k_35 v0 v1 v3 (v4 + 1) h
set_option maxHeartbeats 4000000 in
set_option maxRecDepth 100000 in
theorem w_X9_looksAtEvents_80 {p : Program} {l : Launch} {e : Env} {s : State} {m : MethodId} {args : Array Value} {below : List Frame} {meth : Method} {c : Code} {D : va_G} {cA : Nat → ClassId} {sz : Nat}  {hh : Hp} {k_26 : Option Nat → Int32 → Int32 → Hp → Option (Unit × Hp)} {k_35 : Option Nat → Int32 → Int32 → Int32 → Hp → Option (Unit × Hp)} (X : ab_X p s m args meth c cX9_looksAtEvents 5 RX9 D cA sz) (hr : meth.sig.returnType = none) (hk_26 : ∀ (v0 : Option Nat) (v1 : Int32) (v2 : Int32) (h : Hp) (H : Heap) (locs : List Loc) (ls : Array Slot), ab_H D cA sz h s H locs → lv_has ls 5 [(0, va_rf v0), (1, .int v1), (2, .int v2)] → k_26 v0 v1 v2 h = some ((), hh) → W p l e (ab_rm 7 0 0) s m args below meth c H locs 0 0 (MQ below (ab_Q D cA sz none hh) args s 0 0 (fun q => sz ≤ q)) (F0 m 26 ls [])) (hk_35 : ∀ (v0 : Option Nat) (v1 : Int32) (v3 : Int32) (v4 : Int32) (h : Hp) (H : Heap) (locs : List Loc) (ls : Array Slot), ab_H D cA sz h s H locs → lv_has ls 5 [(0, va_rf v0), (1, .int v1), (3, .int v3), (4, .int v4)] → k_35 v0 v1 v3 v4 h = some ((), hh) → W p l e (ab_rm 7 0 0) s m args below meth c H locs 0 0 (MQ below (ab_Q D cA sz none hh) args s 0 0 (fun q => sz ≤ q)) (F0 m 35 ls [])) {H : Heap} {locs : List Loc} {ls : Array Slot} {v0 : Option Nat} {v1 : Int32} {v3 : Int32} {v4 : Int32} {h : Hp} (S : ab_H D cA sz h s H locs) (hl : lv_has ls 5 [(0, va_rf v0), (1, .int v1), (3, .int v3), (4, .int v4)]) (hF : f_X9_looksAtEvents_80 k_26 k_35 v0 v1 v3 v4 h = some ((), hh)) : W p l e (ab_rm 7 0 0) s m args below meth c H locs 0 0 (MQ below (ab_Q D cA sz none hh) args s 0 0 (fun q => sz ≤ q)) (F0 m 80 ls []) := by
  unfold f_X9_looksAtEvents_80 at hF
  refine lv_iinc (v := v4 + 1) (lv' := [(4, .int (v4 + 1)), (0, va_rf v0), (1, .int v1), (3, .int v3)]) X.1 X.2.1 dX9_looksAtEvents_80 hl (k := 3) rfl (by rfl) (by decide) (by simp [ab_cat, ab_cI, ab_cJ, ab_cD, ab_cF]) (fun ls hl => ?_)
  refine lv_goto (tgt := 35) X.1 X.2.1 dX9_looksAtEvents_83 (by decide) ?_
  exact hk_35 _ _ _ _ _ _ _ _ S (lv_sub hl [1, 2, 3, 0] rfl) hF
def f_X9_looksAtEvents_77 (k_26 : Option Nat → Int32 → Int32 → Hp → Option (Unit × Hp)) (k_35 : Option Nat → Int32 → Int32 → Int32 → Hp → Option (Unit × Hp)) (v0 : Option Nat) (v1 : Int32) (v4 : Int32) (h : Hp) : Option (Unit × Hp) :=
  f_X9_looksAtEvents_80 k_26 k_35 v0 v1 v4 v4 h
set_option maxHeartbeats 4000000 in
set_option maxRecDepth 100000 in
theorem w_X9_looksAtEvents_77 {p : Program} {l : Launch} {e : Env} {s : State} {m : MethodId} {args : Array Value} {below : List Frame} {meth : Method} {c : Code} {D : va_G} {cA : Nat → ClassId} {sz : Nat}  {hh : Hp} {k_26 : Option Nat → Int32 → Int32 → Hp → Option (Unit × Hp)} {k_35 : Option Nat → Int32 → Int32 → Int32 → Hp → Option (Unit × Hp)} (X : ab_X p s m args meth c cX9_looksAtEvents 5 RX9 D cA sz) (hr : meth.sig.returnType = none) (hk_26 : ∀ (v0 : Option Nat) (v1 : Int32) (v2 : Int32) (h : Hp) (H : Heap) (locs : List Loc) (ls : Array Slot), ab_H D cA sz h s H locs → lv_has ls 5 [(0, va_rf v0), (1, .int v1), (2, .int v2)] → k_26 v0 v1 v2 h = some ((), hh) → W p l e (ab_rm 7 0 0) s m args below meth c H locs 0 0 (MQ below (ab_Q D cA sz none hh) args s 0 0 (fun q => sz ≤ q)) (F0 m 26 ls [])) (hk_35 : ∀ (v0 : Option Nat) (v1 : Int32) (v3 : Int32) (v4 : Int32) (h : Hp) (H : Heap) (locs : List Loc) (ls : Array Slot), ab_H D cA sz h s H locs → lv_has ls 5 [(0, va_rf v0), (1, .int v1), (3, .int v3), (4, .int v4)] → k_35 v0 v1 v3 v4 h = some ((), hh) → W p l e (ab_rm 7 0 0) s m args below meth c H locs 0 0 (MQ below (ab_Q D cA sz none hh) args s 0 0 (fun q => sz ≤ q)) (F0 m 35 ls [])) {H : Heap} {locs : List Loc} {ls : Array Slot} {v0 : Option Nat} {v1 : Int32} {v4 : Int32} {h : Hp} (S : ab_H D cA sz h s H locs) (hl : lv_has ls 5 [(0, va_rf v0), (1, .int v1), (4, .int v4)]) (hF : f_X9_looksAtEvents_77 k_26 k_35 v0 v1 v4 h = some ((), hh)) : W p l e (ab_rm 7 0 0) s m args below meth c H locs 0 0 (MQ below (ab_Q D cA sz none hh) args s 0 0 (fun q => sz ≤ q)) (F0 m 77 ls []) := by
  unfold f_X9_looksAtEvents_77 at hF
  refine lv_iload X.1 X.2.1 dX9_looksAtEvents_77 (lv_at hl 2 rfl) ?_
  refine lv_istore_n (i := 3) (lv' := [(3, .int v4), (0, va_rf v0), (1, .int v1), (4, .int v4)]) X.1 X.2.1 dX9_looksAtEvents_79 rfl hl (by decide) (by simp [ab_cat, ab_cI, ab_cJ, ab_cD, ab_cF]) (fun ls hl => ?_)
  exact w_X9_looksAtEvents_80 X hr hk_26 hk_35 S (lv_sub hl [1, 2, 0, 3] rfl) hF
def f_X9_looksAtEvents_35 (k_26 : Option Nat → Int32 → Int32 → Hp → Option (Unit × Hp)) : Nat → Option Nat → Int32 → Int32 → Int32 → Hp → Option (Unit × Hp)
  | 0, _, _, _, _, _ => none
  | n + 1, v0, v1, v3, v4, h => (getR h v0 9 17).bind fun x1 =>
    (aldI h x1 11 v1).bind fun x2 =>
    if x2 ≤ v4 then
      if 0 ≤ v3 then
        (getR h v0 9 59).bind fun x5 =>
        (astZ h x5 v3 0).bind fun h6 =>
        (ab_ck h6 v0 (9, 0)).bind fun a10 =>
        bnd (f_X9_fires a10 v1 v3 h6) fun _ h8 =>
        (getR h8 v0 9 33).bind fun x12 =>
        (aldI h8 x12 11 ((4 * v1) + v3)).bind fun x13 =>
        if ¬ x13 = 0 then
          f_X9_looksAtEvents_122 k_26 v0 v1 0 h8
        else
          f_X9_looksAtEvents_122 k_26 v0 v1 1 h8
      else
        some ((), h)
    else
      (getR h v0 9 59).bind fun x15 =>
      (aldI h x15 12 v4).bind fun x16 =>
      if x16 = 0 then
        f_X9_looksAtEvents_80 k_26 (f_X9_looksAtEvents_35 k_26 n) v0 v1 v3 v4 h
      else
        if v3 < 0 then
          f_X9_looksAtEvents_77 k_26 (f_X9_looksAtEvents_35 k_26 n) v0 v1 v4 h
        else
          (getR h v0 9 58).bind fun x19 =>
          (aldD h x19 v4).bind fun x20 =>
          (getR h v0 9 58).bind fun x21 =>
          (aldD h x21 v3).bind fun x22 =>
          if 0 ≤ (Op.cmpValue (FP.dcmp x20 x22) CmpOp.g) then
            f_X9_looksAtEvents_80 k_26 (f_X9_looksAtEvents_35 k_26 n) v0 v1 v3 v4 h
          else
            f_X9_looksAtEvents_77 k_26 (f_X9_looksAtEvents_35 k_26 n) v0 v1 v4 h
set_option maxHeartbeats 4000000 in
set_option maxRecDepth 100000 in
theorem w_X9_looksAtEvents_35 {p : Program} {l : Launch} {e : Env} {s : State} {m : MethodId} {args : Array Value} {below : List Frame} {meth : Method} {c : Code} {D : va_G} {cA : Nat → ClassId} {sz : Nat}  {hh : Hp} {k_26 : Option Nat → Int32 → Int32 → Hp → Option (Unit × Hp)} (X : ab_X p s m args meth c cX9_looksAtEvents 5 RX9 D cA sz) (hr : meth.sig.returnType = none) (hk_26 : ∀ (v0 : Option Nat) (v1 : Int32) (v2 : Int32) (h : Hp) (H : Heap) (locs : List Loc) (ls : Array Slot), ab_H D cA sz h s H locs → lv_has ls 5 [(0, va_rf v0), (1, .int v1), (2, .int v2)] → k_26 v0 v1 v2 h = some ((), hh) → W p l e (ab_rm 7 0 0) s m args below meth c H locs 0 0 (MQ below (ab_Q D cA sz none hh) args s 0 0 (fun q => sz ≤ q)) (F0 m 26 ls [])) (n : Nat) : ∀ (v0 : Option Nat) (v1 : Int32) (v3 : Int32) (v4 : Int32) (h : Hp) (H : Heap) (locs : List Loc) (ls : Array Slot), ab_H D cA sz h s H locs → lv_has ls 5 [(0, va_rf v0), (1, .int v1), (3, .int v3), (4, .int v4)] → f_X9_looksAtEvents_35 k_26 n v0 v1 v3 v4 h = some ((), hh) → W p l e (ab_rm 7 0 0) s m args below meth c H locs 0 0 (MQ below (ab_Q D cA sz none hh) args s 0 0 (fun q => sz ≤ q)) (F0 m 35 ls []) := by
  induction n with
  | zero => intro v0 v1 v3 v4 h H locs ls S hl hF; cases hF
  | succ n ih =>
    intro v0 v1 v3 v4 h H locs ls S hl hF
    rw [f_X9_looksAtEvents_35] at hF
    refine lv_iload X.1 X.2.1 dX9_looksAtEvents_35 (lv_at hl 3 rfl) ?_
    refine ab_aload_n X dX9_looksAtEvents_37 rfl (lv_at hl 0 rfl) ?_
    refine ab_getR X S hF fi_9_17 lf_X9_58 dX9_looksAtEvents_38 (fun x1 hF => ?_)
    refine lv_iload_n X.1 X.2.1 dX9_looksAtEvents_41 rfl (lv_at hl 1 rfl) ?_
    refine ab_aldI X S hF dX9_looksAtEvents_42 (fun x2 hF => ?_)
    refine lv_icmp_ge (tgt := 86) X.1 X.2.1 dX9_looksAtEvents_43 (by decide) (fun c3 => ?_) (fun c3 => ?_)
    · have hF := ab_pos c3 hF
      refine lv_iload_n X.1 X.2.1 dX9_looksAtEvents_86 rfl (lv_at hl 2 rfl) ?_
      refine lv_if_ge (tgt := 91) X.1 X.2.1 dX9_looksAtEvents_87 (by decide) (fun c4 => ?_) (fun c4 => ?_)
      · have hF := ab_pos c4 hF
        refine ab_aload_n X dX9_looksAtEvents_91 rfl (lv_at hl 0 rfl) ?_
        refine ab_getR X S hF fi_9_59 lf_X9_182 dX9_looksAtEvents_92 (fun x5 hF => ?_)
        refine lv_iload_n X.1 X.2.1 dX9_looksAtEvents_95 rfl (lv_at hl 2 rfl) ?_
        refine lv_iconst (v := 0) X.1 X.2.1 dX9_looksAtEvents_96 (by decide) ?_
        refine ab_astZ X S hF dX9_looksAtEvents_97 (fun h6 H1 locs1 hF S => ?_)
        refine ab_aload_n X dX9_looksAtEvents_98 rfl (lv_at hl 0 rfl) ?_
        refine lv_iload_n X.1 X.2.1 dX9_looksAtEvents_99 rfl (lv_at hl 1 rfl) ?_
        refine lv_iload_n X.1 X.2.1 dX9_looksAtEvents_100 rfl (lv_at hl 2 rfl) ?_
        obtain ⟨a10, e11, hF⟩ := bind_out hF
        obtain ⟨x7, h8, e9, hF⟩ := bnd_out hF
        refine ab_callVv X S e11 (c_X9_fires l D cA sz e9) rfl (by decide) mi_X9_fires lm_X9_340 li_yX9_fires ls_yX9_fires (As := [.int v1, .int v3]) (rest := []) rfl ⟨by decide, by decide⟩ ⟨(by decide), (by decide)⟩ hl.1 rfl (by simp [ab_cat, ab_cI, ab_cJ, ab_cD, ab_cF]) dX9_looksAtEvents_101 (fun H1 locs1 S => ?_)
        refine ab_aload_n X dX9_looksAtEvents_104 rfl (lv_at hl 0 rfl) ?_
        refine ab_getR X S hF fi_9_33 lf_X9_107 dX9_looksAtEvents_105 (fun x12 hF => ?_)
        refine lv_iconst (v := 4) X.1 X.2.1 dX9_looksAtEvents_108 (by decide) ?_
        refine lv_iload_n X.1 X.2.1 dX9_looksAtEvents_109 rfl (lv_at hl 1 rfl) ?_
        refine lv_imul X.1 X.2.1 dX9_looksAtEvents_110 ?_
        refine lv_iload_n X.1 X.2.1 dX9_looksAtEvents_111 rfl (lv_at hl 2 rfl) ?_
        refine lv_iadd X.1 X.2.1 dX9_looksAtEvents_112 ?_
        refine ab_aldI X S hF dX9_looksAtEvents_113 (fun x13 hF => ?_)
        refine lv_if_ne (tgt := 121) X.1 X.2.1 dX9_looksAtEvents_114 (by decide) (fun c14 => ?_) (fun c14 => ?_)
        · have hF := ab_pos c14 hF
          refine lv_iconst (v := 0) X.1 X.2.1 dX9_looksAtEvents_121 (by decide) ?_
          exact w_X9_looksAtEvents_122 X hr hk_26 S (lv_sub hl [0, 1] rfl) hF
        · have hF := ab_neg (fun q => q c14) hF
          refine lv_iconst (v := 1) X.1 X.2.1 dX9_looksAtEvents_117 (by decide) ?_
          refine lv_goto (tgt := 122) X.1 X.2.1 dX9_looksAtEvents_118 (by decide) ?_
          exact w_X9_looksAtEvents_122 X hr hk_26 S (lv_sub hl [0, 1] rfl) hF
      · have hF := ab_neg c4 hF
        exact ab_vret X S hr hF dX9_looksAtEvents_90
    · have hF := ab_neg c3 hF
      refine ab_aload_n X dX9_looksAtEvents_46 rfl (lv_at hl 0 rfl) ?_
      refine ab_getR X S hF fi_9_59 lf_X9_182 dX9_looksAtEvents_47 (fun x15 hF => ?_)
      refine lv_iload X.1 X.2.1 dX9_looksAtEvents_50 (lv_at hl 3 rfl) ?_
      refine ab_aldZ X S hF dX9_looksAtEvents_52 (fun x16 hF => ?_)
      refine lv_if_eq (tgt := 80) X.1 X.2.1 dX9_looksAtEvents_53 (by decide) (fun c17 => ?_) (fun c17 => ?_)
      · have hF := ab_pos c17 hF
        exact w_X9_looksAtEvents_80 X hr hk_26 ih S (lv_sub hl [0, 1, 2, 3] rfl) hF
      · have hF := ab_neg c17 hF
        refine lv_iload_n X.1 X.2.1 dX9_looksAtEvents_56 rfl (lv_at hl 2 rfl) ?_
        refine lv_if_lt (tgt := 77) X.1 X.2.1 dX9_looksAtEvents_57 (by decide) (fun c18 => ?_) (fun c18 => ?_)
        · have hF := ab_pos c18 hF
          exact w_X9_looksAtEvents_77 X hr hk_26 ih S (lv_sub hl [0, 1, 3] rfl) hF
        · have hF := ab_neg c18 hF
          refine ab_aload_n X dX9_looksAtEvents_60 rfl (lv_at hl 0 rfl) ?_
          refine ab_getR X S hF fi_9_58 lf_X9_179 dX9_looksAtEvents_61 (fun x19 hF => ?_)
          refine lv_iload X.1 X.2.1 dX9_looksAtEvents_64 (lv_at hl 3 rfl) ?_
          refine ab_aldD X S hF dX9_looksAtEvents_66 (fun x20 hF => ?_)
          refine ab_aload_n X dX9_looksAtEvents_67 rfl (lv_at hl 0 rfl) ?_
          refine ab_getR X S hF fi_9_58 lf_X9_179 dX9_looksAtEvents_68 (fun x21 hF => ?_)
          refine lv_iload_n X.1 X.2.1 dX9_looksAtEvents_71 rfl (lv_at hl 2 rfl) ?_
          refine ab_aldD X S hF dX9_looksAtEvents_72 (fun x22 hF => ?_)
          refine lv_dcmp X.1 X.2.1 dX9_looksAtEvents_73 ?_
          refine lv_if_ge (tgt := 80) X.1 X.2.1 dX9_looksAtEvents_74 (by decide) (fun c23 => ?_) (fun c23 => ?_)
          · have hF := ab_pos c23 hF
            exact w_X9_looksAtEvents_80 X hr hk_26 ih S (lv_sub hl [0, 1, 2, 3] rfl) hF
          · have hF := ab_neg c23 hF
            exact w_X9_looksAtEvents_77 X hr hk_26 ih S (lv_sub hl [0, 1, 3] rfl) hF
def f_X9_looksAtEvents_26  : Nat → Option Nat → Int32 → Int32 → Hp → Option (Unit × Hp)
  | 0, _, _, _, _ => none
  | n + 1, v0, v1, v2, h => if v2 = 0 then
      some ((), h)
    else
      f_X9_looksAtEvents_35 (f_X9_looksAtEvents_26 n) fuelN v0 v1 (-1) 0 h
set_option maxHeartbeats 4000000 in
set_option maxRecDepth 100000 in
theorem w_X9_looksAtEvents_26 {p : Program} {l : Launch} {e : Env} {s : State} {m : MethodId} {args : Array Value} {below : List Frame} {meth : Method} {c : Code} {D : va_G} {cA : Nat → ClassId} {sz : Nat}  {hh : Hp}  (X : ab_X p s m args meth c cX9_looksAtEvents 5 RX9 D cA sz) (hr : meth.sig.returnType = none)  (n : Nat) : ∀ (v0 : Option Nat) (v1 : Int32) (v2 : Int32) (h : Hp) (H : Heap) (locs : List Loc) (ls : Array Slot), ab_H D cA sz h s H locs → lv_has ls 5 [(0, va_rf v0), (1, .int v1), (2, .int v2)] → f_X9_looksAtEvents_26 n v0 v1 v2 h = some ((), hh) → W p l e (ab_rm 7 0 0) s m args below meth c H locs 0 0 (MQ below (ab_Q D cA sz none hh) args s 0 0 (fun q => sz ≤ q)) (F0 m 26 ls []) := by
  induction n with
  | zero => intro v0 v1 v2 h H locs ls S hl hF; cases hF
  | succ n ih =>
    intro v0 v1 v2 h H locs ls S hl hF
    rw [f_X9_looksAtEvents_26] at hF
    refine lv_iload_n X.1 X.2.1 dX9_looksAtEvents_26 rfl (lv_at hl 2 rfl) ?_
    refine lv_if_eq (tgt := 126) X.1 X.2.1 dX9_looksAtEvents_27 (by decide) (fun c1 => ?_) (fun c1 => ?_)
    · have hF := ab_pos c1 hF
      exact ab_vret X S hr hF dX9_looksAtEvents_126
    · have hF := ab_neg c1 hF
      refine lv_iconst (v := (-1)) X.1 X.2.1 dX9_looksAtEvents_30 (by decide) ?_
      refine lv_istore_n (i := 3) (lv' := [(3, .int (-1)), (0, va_rf v0), (1, .int v1), (2, .int v2)]) X.1 X.2.1 dX9_looksAtEvents_31 rfl hl (by decide) (by simp [ab_cat, ab_cI, ab_cJ, ab_cD, ab_cF]) (fun ls hl => ?_)
      refine lv_iconst (v := 0) X.1 X.2.1 dX9_looksAtEvents_32 (by decide) ?_
      refine lv_istore (lv' := [(4, .int 0), (3, .int (-1)), (0, va_rf v0), (1, .int v1), (2, .int v2)]) X.1 X.2.1 dX9_looksAtEvents_33 hl (by decide) (by simp [ab_cat, ab_cI, ab_cJ, ab_cD, ab_cF]) (fun ls hl => ?_)
      exact w_X9_looksAtEvents_35 X hr ih fuelN _ _ _ _ _ _ _ _ S (lv_sub hl [2, 3, 1, 0] rfl) hF
def f_X9_looksAtEvents_2  : Nat → Option Nat → Int32 → Int32 → Hp → Option (Unit × Hp)
  | 0, _, _, _, _ => none
  | n + 1, v0, v1, v2, h => (getR h v0 9 17).bind fun x1 =>
    (aldI h x1 11 v1).bind fun x2 =>
    if x2 ≤ v2 then
      f_X9_looksAtEvents_26 fuelN v0 v1 1 h
    else
      (ab_ck h v0 (9, 0)).bind fun a7 =>
      bnd (f_X9_looksAt a7 v1 v2 h) fun _ h5 =>
      f_X9_looksAtEvents_2 n v0 v1 (v2 + 1) h5
set_option maxHeartbeats 4000000 in
set_option maxRecDepth 100000 in
theorem w_X9_looksAtEvents_2 {p : Program} {l : Launch} {e : Env} {s : State} {m : MethodId} {args : Array Value} {below : List Frame} {meth : Method} {c : Code} {D : va_G} {cA : Nat → ClassId} {sz : Nat}  {hh : Hp}  (X : ab_X p s m args meth c cX9_looksAtEvents 5 RX9 D cA sz) (hr : meth.sig.returnType = none)  (n : Nat) : ∀ (v0 : Option Nat) (v1 : Int32) (v2 : Int32) (h : Hp) (H : Heap) (locs : List Loc) (ls : Array Slot), ab_H D cA sz h s H locs → lv_has ls 5 [(0, va_rf v0), (1, .int v1), (2, .int v2)] → f_X9_looksAtEvents_2 n v0 v1 v2 h = some ((), hh) → W p l e (ab_rm 7 0 0) s m args below meth c H locs 0 0 (MQ below (ab_Q D cA sz none hh) args s 0 0 (fun q => sz ≤ q)) (F0 m 2 ls []) := by
  induction n with
  | zero => intro v0 v1 v2 h H locs ls S hl hF; cases hF
  | succ n ih =>
    intro v0 v1 v2 h H locs ls S hl hF
    rw [f_X9_looksAtEvents_2] at hF
    refine lv_iload_n X.1 X.2.1 dX9_looksAtEvents_2 rfl (lv_at hl 2 rfl) ?_
    refine ab_aload_n X dX9_looksAtEvents_3 rfl (lv_at hl 0 rfl) ?_
    refine ab_getR X S hF fi_9_17 lf_X9_58 dX9_looksAtEvents_4 (fun x1 hF => ?_)
    refine lv_iload_n X.1 X.2.1 dX9_looksAtEvents_7 rfl (lv_at hl 1 rfl) ?_
    refine ab_aldI X S hF dX9_looksAtEvents_8 (fun x2 hF => ?_)
    refine lv_icmp_ge (tgt := 24) X.1 X.2.1 dX9_looksAtEvents_9 (by decide) (fun c3 => ?_) (fun c3 => ?_)
    · have hF := ab_pos c3 hF
      refine lv_iconst (v := 1) X.1 X.2.1 dX9_looksAtEvents_24 (by decide) ?_
      refine lv_istore_n (i := 2) (lv' := [(2, .int 1), (0, va_rf v0), (1, .int v1)]) X.1 X.2.1 dX9_looksAtEvents_25 rfl hl (by decide) (by simp [ab_cat, ab_cI, ab_cJ, ab_cD, ab_cF]) (fun ls hl => ?_)
      exact w_X9_looksAtEvents_26 X hr  fuelN _ _ _ _ _ _ _ S (lv_sub hl [1, 2, 0] rfl) hF
    · have hF := ab_neg c3 hF
      refine ab_aload_n X dX9_looksAtEvents_12 rfl (lv_at hl 0 rfl) ?_
      refine lv_iload_n X.1 X.2.1 dX9_looksAtEvents_13 rfl (lv_at hl 1 rfl) ?_
      refine lv_iload_n X.1 X.2.1 dX9_looksAtEvents_14 rfl (lv_at hl 2 rfl) ?_
      obtain ⟨a7, e8, hF⟩ := bind_out hF
      obtain ⟨x4, h5, e6, hF⟩ := bnd_out hF
      refine ab_callVv X S e8 (c_X9_looksAt l D cA sz e6) rfl (by decide) mi_X9_looksAt lm_X9_336 li_yX9_looksAt ls_yX9_looksAt (As := [.int v1, .int v2]) (rest := []) rfl ⟨by decide, by decide⟩ ⟨(by decide), (by decide)⟩ hl.1 rfl (by simp [ab_cat, ab_cI, ab_cJ, ab_cD, ab_cF]) dX9_looksAtEvents_15 (fun H1 locs1 S => ?_)
      refine lv_iinc (v := v2 + 1) (lv' := [(2, .int (v2 + 1)), (0, va_rf v0), (1, .int v1)]) X.1 X.2.1 dX9_looksAtEvents_18 hl (k := 2) rfl (by rfl) (by decide) (by simp [ab_cat, ab_cI, ab_cJ, ab_cD, ab_cF]) (fun ls hl => ?_)
      refine lv_goto (tgt := 2) X.1 X.2.1 dX9_looksAtEvents_21 (by decide) ?_
      exact ih _ _ _ _ _ _ _ S (lv_sub hl [1, 2, 0] rfl) hF
def f_X9_looksAtEvents (this : Nat) (p0 : Int32) (h : Hp) : Option (Unit × Hp) :=
  f_X9_looksAtEvents_2 fuelN (some this) p0 0 h
theorem mi_X9_looksAtEvents : ab_MI yX9_looksAtEvents cX9_looksAtEvents 5 none 1 := ⟨lc_yX9_looksAtEvents, lz_RX9, by decide, by decide, by decide +kernel⟩
set_option maxHeartbeats 4000000 in
set_option maxRecDepth 100000 in
theorem c_X9_looksAtEvents (l : Launch) (D : va_G) (cA : Nat → ClassId) (sz : Nat) {this : Nat} {p0 : Int32} {h hh : Hp}  (hF : f_X9_looksAtEvents this p0 h = some ((), hh)) : ab_C l D cA sz yX9_looksAtEvents cX9_looksAtEvents 5 none 7 0 0 [.ref this, .int p0] h none hh := by
  refine Met.ofW (cc := cX9_looksAtEvents) (maxL := 5) (ret := none) (by decide) rfl ?_
  intro p e s m args below meth c s₁ B hml hv
  obtain ⟨rfl, hT, hR⟩ := hv
  have X : ab_X p s m _ meth c cX9_looksAtEvents 5 RX9 D cA sz := (ab_enter B hml hT hR).1
  have S := (ab_enter B hml hT hR).2
  have hr := B.returns
  obtain ⟨ls, hls, hl⟩ := ab_entry m [.ref this, .int p0] 5 (lv := [(0, .ref this), (1, .int p0)]) (by simp [lg_sl, ab_cat, ab_cI, ab_cJ, ab_cD, ab_cF, ab_cA]) (by simp [lv_args, ab_cat, ab_cI, ab_cJ, ab_cD, ab_cF, ab_cA])
  rw [hls]
  have hl : lv_has ls 5 [(0, va_rf (some this)), (1, .int p0)] := hl
  unfold f_X9_looksAtEvents at hF
  show W p l e (ab_rm 7 0 0) s m _ below meth c s.heap [] 0 0 _ _
  refine lv_iconst (v := 0) X.1 X.2.1 dX9_looksAtEvents_0 (by decide) ?_
  refine lv_istore_n (i := 2) (lv' := [(2, .int 0), (0, va_rf (some this)), (1, .int p0)]) X.1 X.2.1 dX9_looksAtEvents_1 rfl hl (by decide) (by simp [ab_cat, ab_cI, ab_cJ, ab_cD, ab_cF]) (fun ls hl => ?_)
  exact w_X9_looksAtEvents_2 X hr  fuelN _ _ _ _ _ _ _ S (lv_sub hl [1, 2, 0] rfl) hF
def f_X9_state_49  (u0 : Int64) (h : Hp) : Option (Int64 × Hp) :=
  some (u0, h)
set_option maxHeartbeats 4000000 in
set_option maxRecDepth 100000 in
theorem w_X9_state_49 {p : Program} {l : Launch} {e : Env} {s : State} {m : MethodId} {args : Array Value} {below : List Frame} {meth : Method} {c : Code} {D : va_G} {cA : Nat → ClassId} {sz : Nat} {rr : Int64} {hh : Hp}  (X : ab_X p s m args meth c cX9_state 3 RX9 D cA sz) (hr : meth.sig.returnType = (some .long))  {H : Heap} {locs : List Loc} {ls : Array Slot} {u0 : Int64} {h : Hp} (S : ab_H D cA sz h s H locs) (hl : lv_has ls 3 []) (hF : f_X9_state_49 u0 h = some (rr, hh)) : W p l e (ab_rm 3 0 0) s m args below meth c H locs 0 0 (MQ below (ab_Q D cA sz (some (.long rr)) hh) args s 0 0 (fun q => sz ≤ q)) (F0 m 49 ls [.long u0]) := by
  unfold f_X9_state_49 at hF
  exact ab_lret X S hr hF dX9_state_49
def f_X9_state_46   (h : Hp) : Option (Int64 × Hp) :=
  f_X9_state_49 (9221120237041090560) h
set_option maxHeartbeats 4000000 in
set_option maxRecDepth 100000 in
theorem w_X9_state_46 {p : Program} {l : Launch} {e : Env} {s : State} {m : MethodId} {args : Array Value} {below : List Frame} {meth : Method} {c : Code} {D : va_G} {cA : Nat → ClassId} {sz : Nat} {rr : Int64} {hh : Hp}  (X : ab_X p s m args meth c cX9_state 3 RX9 D cA sz) (hr : meth.sig.returnType = (some .long))  {H : Heap} {locs : List Loc} {ls : Array Slot}  {h : Hp} (S : ab_H D cA sz h s H locs) (hl : lv_has ls 3 []) (hF : f_X9_state_46  h = some (rr, hh)) : W p l e (ab_rm 3 0 0) s m args below meth c H locs 0 0 (MQ below (ab_Q D cA sz (some (.long rr)) hh) args s 0 0 (fun q => sz ≤ q)) (F0 m 46 ls []) := by
  unfold f_X9_state_46 at hF
  refine lv_ldc2 (v := (9221120237041090560)) X.1 X.2.1 X.2.2.2.1 (X.2.2.2.2.1 _ ll_X9_198) dX9_state_46 ?_
  exact w_X9_state_49 X hr  S (lv_sub hl [] rfl) hF
def f_X9_state (this : Nat) (p0 : Int32) (p1 : Int32) (h : Hp) : Option (Int64 × Hp) :=
  (ab_ck h (some this) (9, 0)).bind fun a4 =>
  bnd (f_X9_isRun a4 p0 h) fun x1 h2 =>
  if x1 = 0 then
    f_X9_state_46 h2
  else
    (getR h2 (some this) 9 0).bind fun x7 =>
    (getR h2 (some this) 9 15).bind fun x8 =>
    (aldI h2 x8 11 p0).bind fun x9 =>
    (aldI h2 x7 11 x9).bind fun x10 =>
    bnd (f_X9_in p1 0 (x10 - 1) h2) fun x11 h12 =>
    if x11 = 0 then
      f_X9_state_46 h12
    else
      (getR h12 (some this) 9 30).bind fun x15 =>
      (aldD h12 x15 ((6 * p0) + p1)).bind fun x16 =>
      bnd (f_X9_bits x16 h12) fun x17 h18 =>
      f_X9_state_49 x17 h18
theorem mi_X9_state : ab_MI yX9_state cX9_state 3 (some .long) 2 := ⟨lc_yX9_state, lz_RX9, by decide, by decide, by decide +kernel⟩
set_option maxHeartbeats 4000000 in
set_option maxRecDepth 100000 in
theorem c_X9_state (l : Launch) (D : va_G) (cA : Nat → ClassId) (sz : Nat) {this : Nat} {p0 : Int32} {p1 : Int32} {h hh : Hp} {rr : Int64} (hF : f_X9_state this p0 p1 h = some (rr, hh)) : ab_C l D cA sz yX9_state cX9_state 3 (some .long) 3 0 0 [.ref this, .int p0, .int p1] h (some (.long rr)) hh := by
  refine Met.ofW (cc := cX9_state) (maxL := 3) (ret := (some .long)) (by decide) rfl ?_
  intro p e s m args below meth c s₁ B hml hv
  obtain ⟨rfl, hT, hR⟩ := hv
  have X : ab_X p s m _ meth c cX9_state 3 RX9 D cA sz := (ab_enter B hml hT hR).1
  have S := (ab_enter B hml hT hR).2
  have hr := B.returns
  obtain ⟨ls, hls, hl⟩ := ab_entry m [.ref this, .int p0, .int p1] 3 (lv := [(0, .ref this), (1, .int p0), (2, .int p1)]) (by simp [lg_sl, ab_cat, ab_cI, ab_cJ, ab_cD, ab_cF, ab_cA]) (by simp [lv_args, ab_cat, ab_cI, ab_cJ, ab_cD, ab_cF, ab_cA])
  rw [hls]
  have hl : lv_has ls 3 [(0, va_rf (some this)), (1, .int p0), (2, .int p1)] := hl
  unfold f_X9_state at hF
  show W p l e (ab_rm 3 0 0) s m _ below meth c s.heap [] 0 0 _ _
  refine ab_aload_n X dX9_state_0 rfl (lv_at hl 0 rfl) ?_
  refine lv_iload_n X.1 X.2.1 dX9_state_1 rfl (lv_at hl 1 rfl) ?_
  obtain ⟨a4, e5, hF⟩ := bind_out hF
  obtain ⟨x1, h2, e3, hF⟩ := bnd_out hF
  refine ab_callVi X S e5 (c_X9_isRun l D cA sz e3) rfl (by decide) mi_X9_isRun lm_X9_366 li_yX9_isRun ls_yX9_isRun (As := [.int p0]) (rest := []) rfl ⟨by decide, by decide⟩ ⟨(by decide), (by decide)⟩ hl.1 rfl (by simp [ab_cat, ab_cI, ab_cJ, ab_cD, ab_cF]) dX9_state_2 (fun H1 locs1 S => ?_)
  refine lv_if_eq (tgt := 46) X.1 X.2.1 dX9_state_5 (by decide) (fun c6 => ?_) (fun c6 => ?_)
  · have hF := ab_pos c6 hF
    exact w_X9_state_46 X hr  S (lv_sub hl [] rfl) hF
  · have hF := ab_neg c6 hF
    refine lv_iload_n X.1 X.2.1 dX9_state_8 rfl (lv_at hl 2 rfl) ?_
    refine lv_iconst (v := 0) X.1 X.2.1 dX9_state_9 (by decide) ?_
    refine ab_aload_n X dX9_state_10 rfl (lv_at hl 0 rfl) ?_
    refine ab_getR X S hF fi_9_0 lf_X9_9 dX9_state_11 (fun x7 hF => ?_)
    refine ab_aload_n X dX9_state_14 rfl (lv_at hl 0 rfl) ?_
    refine ab_getR X S hF fi_9_15 lf_X9_52 dX9_state_15 (fun x8 hF => ?_)
    refine lv_iload_n X.1 X.2.1 dX9_state_18 rfl (lv_at hl 1 rfl) ?_
    refine ab_aldI X S hF dX9_state_19 (fun x9 hF => ?_)
    refine ab_aldI X S hF dX9_state_20 (fun x10 hF => ?_)
    refine lv_iconst (v := 1) X.1 X.2.1 dX9_state_21 (by decide) ?_
    refine lv_isub X.1 X.2.1 dX9_state_22 ?_
    obtain ⟨x11, h12, e13, hF⟩ := bnd_out hF
    refine ab_callSi X S (c_X9_in l D cA sz e13) mi_X9_in lm_X9_343 lt_yX9_in (As := [.int p1, .int 0, .int (x10 - 1)]) (rest := []) rfl ⟨by decide, by decide⟩ ⟨(by decide), (by decide)⟩ hl.1 rfl (by simp [ab_cat, ab_cI, ab_cJ, ab_cD, ab_cF]) dX9_state_23 (fun H1 locs1 S => ?_)
    refine lv_if_eq (tgt := 46) X.1 X.2.1 dX9_state_26 (by decide) (fun c14 => ?_) (fun c14 => ?_)
    · have hF := ab_pos c14 hF
      exact w_X9_state_46 X hr  S (lv_sub hl [] rfl) hF
    · have hF := ab_neg c14 hF
      refine ab_aload_n X dX9_state_29 rfl (lv_at hl 0 rfl) ?_
      refine ab_getR X S hF fi_9_30 lf_X9_98 dX9_state_30 (fun x15 hF => ?_)
      refine lv_bipush (v := 6) X.1 X.2.1 dX9_state_33 (by decide) ?_
      refine lv_iload_n X.1 X.2.1 dX9_state_35 rfl (lv_at hl 1 rfl) ?_
      refine lv_imul X.1 X.2.1 dX9_state_36 ?_
      refine lv_iload_n X.1 X.2.1 dX9_state_37 rfl (lv_at hl 2 rfl) ?_
      refine lv_iadd X.1 X.2.1 dX9_state_38 ?_
      refine ab_aldD X S hF dX9_state_39 (fun x16 hF => ?_)
      obtain ⟨x17, h18, e19, hF⟩ := bnd_out hF
      refine ab_callSl X S (c_X9_bits l D cA sz e19) mi_X9_bits lm_X9_377 lt_yX9_bits (As := [.double x16]) (rest := []) rfl ⟨by decide, by decide⟩ ⟨(by decide), (by decide)⟩ hl.1 rfl (by simp [ab_cat, ab_cI, ab_cJ, ab_cD, ab_cF]) dX9_state_40 (fun H1 locs1 S => ?_)
      refine lv_goto (tgt := 49) X.1 X.2.1 dX9_state_43 (by decide) ?_
      exact w_X9_state_49 X hr  S (lv_sub hl [] rfl) hF
def f_X9_clock (this : Nat) (p0 : Int32) (p1 : Int32) (h : Hp) : Option (Int64 × Hp) :=
  (ab_ck h (some this) (9, 0)).bind fun a4 =>
  bnd (f_X9_isRun a4 p0 h) fun x1 h2 =>
  if ¬ x1 = 0 then
    if p1.toInt < 0 ∨ 3 < p1.toInt then
      some ((9221120237041090560), h2)
    else if p1 = 0 then
      (getR h2 (some this) 9 25).bind fun x9 =>
      (aldD h2 x9 p0).bind fun x10 =>
      bnd (f_X9_bits x10 h2) fun x11 h12 =>
      some (x11, h12)
    else if p1 = 1 then
      (getR h2 (some this) 9 26).bind fun x15 =>
      (aldD h2 x15 p0).bind fun x16 =>
      bnd (f_X9_bits x16 h2) fun x17 h18 =>
      some (x17, h18)
    else if p1 = 2 then
      (getR h2 (some this) 9 29).bind fun x21 =>
      (aldD h2 x21 p0).bind fun x22 =>
      bnd (f_X9_bits x22 h2) fun x23 h24 =>
      some (x23, h24)
    else if p1 = 3 then
      (getR h2 (some this) 9 39).bind fun x27 =>
      (aldD h2 x27 p0).bind fun x28 =>
      bnd (f_X9_bits x28 h2) fun x29 h30 =>
      some (x29, h30)
    else none
  else
    some ((9221120237041090560), h2)
theorem mi_X9_clock : ab_MI yX9_clock cX9_clock 3 (some .long) 2 := ⟨lc_yX9_clock, lz_RX9, by decide, by decide, by decide +kernel⟩
set_option maxHeartbeats 4000000 in
set_option maxRecDepth 100000 in
theorem c_X9_clock (l : Launch) (D : va_G) (cA : Nat → ClassId) (sz : Nat) {this : Nat} {p0 : Int32} {p1 : Int32} {h hh : Hp} {rr : Int64} (hF : f_X9_clock this p0 p1 h = some (rr, hh)) : ab_C l D cA sz yX9_clock cX9_clock 3 (some .long) 3 0 0 [.ref this, .int p0, .int p1] h (some (.long rr)) hh := by
  refine Met.ofW (cc := cX9_clock) (maxL := 3) (ret := (some .long)) (by decide) rfl ?_
  intro p e s m args below meth c s₁ B hml hv
  obtain ⟨rfl, hT, hR⟩ := hv
  have X : ab_X p s m _ meth c cX9_clock 3 RX9 D cA sz := (ab_enter B hml hT hR).1
  have S := (ab_enter B hml hT hR).2
  have hr := B.returns
  obtain ⟨ls, hls, hl⟩ := ab_entry m [.ref this, .int p0, .int p1] 3 (lv := [(0, .ref this), (1, .int p0), (2, .int p1)]) (by simp [lg_sl, ab_cat, ab_cI, ab_cJ, ab_cD, ab_cF, ab_cA]) (by simp [lv_args, ab_cat, ab_cI, ab_cJ, ab_cD, ab_cF, ab_cA])
  rw [hls]
  have hl : lv_has ls 3 [(0, va_rf (some this)), (1, .int p0), (2, .int p1)] := hl
  unfold f_X9_clock at hF
  show W p l e (ab_rm 3 0 0) s m _ below meth c s.heap [] 0 0 _ _
  refine ab_aload_n X dX9_clock_0 rfl (lv_at hl 0 rfl) ?_
  refine lv_iload_n X.1 X.2.1 dX9_clock_1 rfl (lv_at hl 1 rfl) ?_
  obtain ⟨a4, e5, hF⟩ := bind_out hF
  obtain ⟨x1, h2, e3, hF⟩ := bnd_out hF
  refine ab_callVi X S e5 (c_X9_isRun l D cA sz e3) rfl (by decide) mi_X9_isRun lm_X9_366 li_yX9_isRun ls_yX9_isRun (As := [.int p0]) (rest := []) rfl ⟨by decide, by decide⟩ ⟨(by decide), (by decide)⟩ hl.1 rfl (by simp [ab_cat, ab_cI, ab_cJ, ab_cD, ab_cF]) dX9_clock_2 (fun H1 locs1 S => ?_)
  refine lv_if_ne (tgt := 12) X.1 X.2.1 dX9_clock_5 (by decide) (fun c6 => ?_) (fun c6 => ?_)
  · have hF := ab_pos c6 hF
    refine lv_iload_n X.1 X.2.1 dX9_clock_12 rfl (lv_at hl 2 rfl) ?_
    by_cases c7 : p1.toInt < 0 ∨ 3 < p1.toInt
    · have hF := ab_pos c7 hF
      refine lv_tableOut (tgt := 84) X.1 X.2.1 dX9_clock_13 c7 (by decide) ?_
      refine lv_ldc2 (v := (9221120237041090560)) X.1 X.2.1 X.2.2.2.1 (X.2.2.2.2.1 _ ll_X9_198) dX9_clock_84 ?_
      exact ab_lret X S hr hF dX9_clock_87
    have hF := ab_neg c7 hF
    by_cases c8 : p1 = 0
    · have hF := ab_pos c8 hF
      refine ab_tab (tgt := 44) X dX9_clock_13 c8 (by decide) (by decide) rfl (by decide) ?_
      refine ab_aload_n X dX9_clock_44 rfl (lv_at hl 0 rfl) ?_
      refine ab_getR X S hF fi_9_25 lf_X9_83 dX9_clock_45 (fun x9 hF => ?_)
      refine lv_iload_n X.1 X.2.1 dX9_clock_48 rfl (lv_at hl 1 rfl) ?_
      refine ab_aldD X S hF dX9_clock_49 (fun x10 hF => ?_)
      obtain ⟨x11, h12, e13, hF⟩ := bnd_out hF
      refine ab_callSl X S (c_X9_bits l D cA sz e13) mi_X9_bits lm_X9_377 lt_yX9_bits (As := [.double x10]) (rest := []) rfl ⟨by decide, by decide⟩ ⟨(by decide), (by decide)⟩ hl.1 rfl (by simp [ab_cat, ab_cI, ab_cJ, ab_cD, ab_cF]) dX9_clock_50 (fun H1 locs1 S => ?_)
      exact ab_lret X S hr hF dX9_clock_53
    have hF := ab_neg c8 hF
    by_cases c14 : p1 = 1
    · have hF := ab_pos c14 hF
      refine ab_tab (tgt := 54) X dX9_clock_13 c14 (by decide) (by decide) rfl (by decide) ?_
      refine ab_aload_n X dX9_clock_54 rfl (lv_at hl 0 rfl) ?_
      refine ab_getR X S hF fi_9_26 lf_X9_86 dX9_clock_55 (fun x15 hF => ?_)
      refine lv_iload_n X.1 X.2.1 dX9_clock_58 rfl (lv_at hl 1 rfl) ?_
      refine ab_aldD X S hF dX9_clock_59 (fun x16 hF => ?_)
      obtain ⟨x17, h18, e19, hF⟩ := bnd_out hF
      refine ab_callSl X S (c_X9_bits l D cA sz e19) mi_X9_bits lm_X9_377 lt_yX9_bits (As := [.double x16]) (rest := []) rfl ⟨by decide, by decide⟩ ⟨(by decide), (by decide)⟩ hl.1 rfl (by simp [ab_cat, ab_cI, ab_cJ, ab_cD, ab_cF]) dX9_clock_60 (fun H1 locs1 S => ?_)
      exact ab_lret X S hr hF dX9_clock_63
    have hF := ab_neg c14 hF
    by_cases c20 : p1 = 2
    · have hF := ab_pos c20 hF
      refine ab_tab (tgt := 64) X dX9_clock_13 c20 (by decide) (by decide) rfl (by decide) ?_
      refine ab_aload_n X dX9_clock_64 rfl (lv_at hl 0 rfl) ?_
      refine ab_getR X S hF fi_9_29 lf_X9_95 dX9_clock_65 (fun x21 hF => ?_)
      refine lv_iload_n X.1 X.2.1 dX9_clock_68 rfl (lv_at hl 1 rfl) ?_
      refine ab_aldD X S hF dX9_clock_69 (fun x22 hF => ?_)
      obtain ⟨x23, h24, e25, hF⟩ := bnd_out hF
      refine ab_callSl X S (c_X9_bits l D cA sz e25) mi_X9_bits lm_X9_377 lt_yX9_bits (As := [.double x22]) (rest := []) rfl ⟨by decide, by decide⟩ ⟨(by decide), (by decide)⟩ hl.1 rfl (by simp [ab_cat, ab_cI, ab_cJ, ab_cD, ab_cF]) dX9_clock_70 (fun H1 locs1 S => ?_)
      exact ab_lret X S hr hF dX9_clock_73
    have hF := ab_neg c20 hF
    by_cases c26 : p1 = 3
    · have hF := ab_pos c26 hF
      refine ab_tab (tgt := 74) X dX9_clock_13 c26 (by decide) (by decide) rfl (by decide) ?_
      refine ab_aload_n X dX9_clock_74 rfl (lv_at hl 0 rfl) ?_
      refine ab_getR X S hF fi_9_39 lf_X9_125 dX9_clock_75 (fun x27 hF => ?_)
      refine lv_iload_n X.1 X.2.1 dX9_clock_78 rfl (lv_at hl 1 rfl) ?_
      refine ab_aldD X S hF dX9_clock_79 (fun x28 hF => ?_)
      obtain ⟨x29, h30, e31, hF⟩ := bnd_out hF
      refine ab_callSl X S (c_X9_bits l D cA sz e31) mi_X9_bits lm_X9_377 lt_yX9_bits (As := [.double x28]) (rest := []) rfl ⟨by decide, by decide⟩ ⟨(by decide), (by decide)⟩ hl.1 rfl (by simp [ab_cat, ab_cI, ab_cJ, ab_cD, ab_cF]) dX9_clock_80 (fun H1 locs1 S => ?_)
      exact ab_lret X S hr hF dX9_clock_83
    have hF := ab_neg c26 hF
    cases hF
  · have hF := ab_neg (fun q => q c6) hF
    refine lv_ldc2 (v := (9221120237041090560)) X.1 X.2.1 X.2.2.2.1 (X.2.2.2.2.1 _ ll_X9_198) dX9_clock_8 ?_
    exact ab_lret X S hr hF dX9_clock_11
def f_X9_stage_38   (h : Hp) : Option (Int64 × Hp) :=
  some ((9221120237041090560), h)
set_option maxHeartbeats 4000000 in
set_option maxRecDepth 100000 in
theorem w_X9_stage_38 {p : Program} {l : Launch} {e : Env} {s : State} {m : MethodId} {args : Array Value} {below : List Frame} {meth : Method} {c : Code} {D : va_G} {cA : Nat → ClassId} {sz : Nat} {rr : Int64} {hh : Hp}  (X : ab_X p s m args meth c cX9_stage 7 RX9 D cA sz) (hr : meth.sig.returnType = (some .long))  {H : Heap} {locs : List Loc} {ls : Array Slot}  {h : Hp} (S : ab_H D cA sz h s H locs) (hl : lv_has ls 7 []) (hF : f_X9_stage_38  h = some (rr, hh)) : W p l e (ab_rm 3 0 0) s m args below meth c H locs 0 0 (MQ below (ab_Q D cA sz (some (.long rr)) hh) args s 0 0 (fun q => sz ≤ q)) (F0 m 38 ls []) := by
  unfold f_X9_stage_38 at hF
  refine lv_ldc2 (v := (9221120237041090560)) X.1 X.2.1 X.2.2.2.1 (X.2.2.2.2.1 _ ll_X9_198) dX9_stage_38 ?_
  exact ab_lret X S hr hF dX9_stage_41
def f_X9_stage_154  (u0 : Int64) (h : Hp) : Option (Int64 × Hp) :=
  some (u0, h)
set_option maxHeartbeats 4000000 in
set_option maxRecDepth 100000 in
theorem w_X9_stage_154 {p : Program} {l : Launch} {e : Env} {s : State} {m : MethodId} {args : Array Value} {below : List Frame} {meth : Method} {c : Code} {D : va_G} {cA : Nat → ClassId} {sz : Nat} {rr : Int64} {hh : Hp}  (X : ab_X p s m args meth c cX9_stage 7 RX9 D cA sz) (hr : meth.sig.returnType = (some .long))  {H : Heap} {locs : List Loc} {ls : Array Slot} {u0 : Int64} {h : Hp} (S : ab_H D cA sz h s H locs) (hl : lv_has ls 7 []) (hF : f_X9_stage_154 u0 h = some (rr, hh)) : W p l e (ab_rm 3 0 0) s m args below meth c H locs 0 0 (MQ below (ab_Q D cA sz (some (.long rr)) hh) args s 0 0 (fun q => sz ≤ q)) (F0 m 154 ls [.long u0]) := by
  unfold f_X9_stage_154 at hF
  exact ab_lret X S hr hF dX9_stage_154
def f_X9_stage_121  (v0 : Option Nat) (v1 : Int32) (v2 : Int32) (v3 : Int32) (u0 : Int32) (h : Hp) : Option (Int64 × Hp) :=
  if u0 = 0 then
    f_X9_stage_154 (9221120237041090560) h
  else
    (getR h v0 9 44).bind fun x2 =>
    (aldD h x2 (((5 * ((6 * v1) + v3)) + v2) - 1)).bind fun x3 =>
    bnd (f_X9_bits x3 h) fun x4 h5 =>
    f_X9_stage_154 x4 h5
set_option maxHeartbeats 4000000 in
set_option maxRecDepth 100000 in
theorem w_X9_stage_121 {p : Program} {l : Launch} {e : Env} {s : State} {m : MethodId} {args : Array Value} {below : List Frame} {meth : Method} {c : Code} {D : va_G} {cA : Nat → ClassId} {sz : Nat} {rr : Int64} {hh : Hp}  (X : ab_X p s m args meth c cX9_stage 7 RX9 D cA sz) (hr : meth.sig.returnType = (some .long))  {H : Heap} {locs : List Loc} {ls : Array Slot} {v0 : Option Nat} {v1 : Int32} {v2 : Int32} {v3 : Int32} {u0 : Int32} {h : Hp} (S : ab_H D cA sz h s H locs) (hl : lv_has ls 7 [(0, va_rf v0), (1, .int v1), (2, .int v2), (3, .int v3)]) (hF : f_X9_stage_121 v0 v1 v2 v3 u0 h = some (rr, hh)) : W p l e (ab_rm 3 0 0) s m args below meth c H locs 0 0 (MQ below (ab_Q D cA sz (some (.long rr)) hh) args s 0 0 (fun q => sz ≤ q)) (F0 m 121 ls [.int u0]) := by
  unfold f_X9_stage_121 at hF
  refine lv_istore (lv' := [(6, .int u0), (0, va_rf v0), (1, .int v1), (2, .int v2), (3, .int v3)]) X.1 X.2.1 dX9_stage_121 hl (by decide) (by simp [ab_cat, ab_cI, ab_cJ, ab_cD, ab_cF]) (fun ls hl => ?_)
  refine lv_iload X.1 X.2.1 dX9_stage_123 (lv_at hl 0 rfl) ?_
  refine lv_if_eq (tgt := 151) X.1 X.2.1 dX9_stage_125 (by decide) (fun c1 => ?_) (fun c1 => ?_)
  · have hF := ab_pos c1 hF
    refine lv_ldc2 (v := (9221120237041090560)) X.1 X.2.1 X.2.2.2.1 (X.2.2.2.2.1 _ ll_X9_198) dX9_stage_151 ?_
    exact w_X9_stage_154 X hr  S (lv_sub hl [] rfl) hF
  · have hF := ab_neg c1 hF
    refine ab_aload_n X dX9_stage_128 rfl (lv_at hl 1 rfl) ?_
    refine ab_getR X S hF fi_9_44 lf_X9_140 dX9_stage_129 (fun x2 hF => ?_)
    refine lv_iconst (v := 5) X.1 X.2.1 dX9_stage_132 (by decide) ?_
    refine lv_bipush (v := 6) X.1 X.2.1 dX9_stage_133 (by decide) ?_
    refine lv_iload_n X.1 X.2.1 dX9_stage_135 rfl (lv_at hl 2 rfl) ?_
    refine lv_imul X.1 X.2.1 dX9_stage_136 ?_
    refine lv_iload_n X.1 X.2.1 dX9_stage_137 rfl (lv_at hl 4 rfl) ?_
    refine lv_iadd X.1 X.2.1 dX9_stage_138 ?_
    refine lv_imul X.1 X.2.1 dX9_stage_139 ?_
    refine lv_iload_n X.1 X.2.1 dX9_stage_140 rfl (lv_at hl 3 rfl) ?_
    refine lv_iadd X.1 X.2.1 dX9_stage_141 ?_
    refine lv_iconst (v := 1) X.1 X.2.1 dX9_stage_142 (by decide) ?_
    refine lv_isub X.1 X.2.1 dX9_stage_143 ?_
    refine ab_aldD X S hF dX9_stage_144 (fun x3 hF => ?_)
    obtain ⟨x4, h5, e6, hF⟩ := bnd_out hF
    refine ab_callSl X S (c_X9_bits l D cA sz e6) mi_X9_bits lm_X9_377 lt_yX9_bits (As := [.double x3]) (rest := []) rfl ⟨by decide, by decide⟩ ⟨(by decide), (by decide)⟩ hl.1 rfl (by simp [ab_cat, ab_cI, ab_cJ, ab_cD, ab_cF]) dX9_stage_145 (fun H1 locs1 S => ?_)
    refine lv_goto (tgt := 154) X.1 X.2.1 dX9_stage_148 (by decide) ?_
    exact w_X9_stage_154 X hr  S (lv_sub hl [] rfl) hF
def f_X9_stage_116  (v0 : Option Nat) (v1 : Int32) (v2 : Int32) (v3 : Int32) (h : Hp) : Option (Int64 × Hp) :=
  f_X9_stage_121 v0 v1 v2 v3 1 h
set_option maxHeartbeats 4000000 in
set_option maxRecDepth 100000 in
theorem w_X9_stage_116 {p : Program} {l : Launch} {e : Env} {s : State} {m : MethodId} {args : Array Value} {below : List Frame} {meth : Method} {c : Code} {D : va_G} {cA : Nat → ClassId} {sz : Nat} {rr : Int64} {hh : Hp}  (X : ab_X p s m args meth c cX9_stage 7 RX9 D cA sz) (hr : meth.sig.returnType = (some .long))  {H : Heap} {locs : List Loc} {ls : Array Slot} {v0 : Option Nat} {v1 : Int32} {v2 : Int32} {v3 : Int32} {h : Hp} (S : ab_H D cA sz h s H locs) (hl : lv_has ls 7 [(0, va_rf v0), (1, .int v1), (2, .int v2), (3, .int v3)]) (hF : f_X9_stage_116 v0 v1 v2 v3 h = some (rr, hh)) : W p l e (ab_rm 3 0 0) s m args below meth c H locs 0 0 (MQ below (ab_Q D cA sz (some (.long rr)) hh) args s 0 0 (fun q => sz ≤ q)) (F0 m 116 ls []) := by
  unfold f_X9_stage_116 at hF
  refine lv_iconst (v := 1) X.1 X.2.1 dX9_stage_116 (by decide) ?_
  refine lv_goto (tgt := 121) X.1 X.2.1 dX9_stage_117 (by decide) ?_
  exact w_X9_stage_121 X hr  S (lv_sub hl [0, 1, 2, 3] rfl) hF
def f_X9_stage_120  (v0 : Option Nat) (v1 : Int32) (v2 : Int32) (v3 : Int32) (h : Hp) : Option (Int64 × Hp) :=
  f_X9_stage_121 v0 v1 v2 v3 0 h
set_option maxHeartbeats 4000000 in
set_option maxRecDepth 100000 in
theorem w_X9_stage_120 {p : Program} {l : Launch} {e : Env} {s : State} {m : MethodId} {args : Array Value} {below : List Frame} {meth : Method} {c : Code} {D : va_G} {cA : Nat → ClassId} {sz : Nat} {rr : Int64} {hh : Hp}  (X : ab_X p s m args meth c cX9_stage 7 RX9 D cA sz) (hr : meth.sig.returnType = (some .long))  {H : Heap} {locs : List Loc} {ls : Array Slot} {v0 : Option Nat} {v1 : Int32} {v2 : Int32} {v3 : Int32} {h : Hp} (S : ab_H D cA sz h s H locs) (hl : lv_has ls 7 [(0, va_rf v0), (1, .int v1), (2, .int v2), (3, .int v3)]) (hF : f_X9_stage_120 v0 v1 v2 v3 h = some (rr, hh)) : W p l e (ab_rm 3 0 0) s m args below meth c H locs 0 0 (MQ below (ab_Q D cA sz (some (.long rr)) hh) args s 0 0 (fun q => sz ≤ q)) (F0 m 120 ls []) := by
  unfold f_X9_stage_120 at hF
  refine lv_iconst (v := 0) X.1 X.2.1 dX9_stage_120 (by decide) ?_
  exact w_X9_stage_121 X hr  S (lv_sub hl [0, 1, 2, 3] rfl) hF
def f_X9_stage_93  (v0 : Option Nat) (v1 : Int32) (v2 : Int32) (v3 : Int32) (v4 : Int32) (u0 : Int32) (h : Hp) : Option (Int64 × Hp) :=
  bnd (f_X9_in v2 1 u0 h) fun x1 h2 =>
  if ¬ x1 = 0 then
    f_X9_stage_116 v0 v1 v2 v3 h2
  else
    if ¬ v4 = 4 then
      f_X9_stage_120 v0 v1 v2 v3 h2
    else
      if ¬ v2 = 5 then
        f_X9_stage_120 v0 v1 v2 v3 h2
      else
        f_X9_stage_116 v0 v1 v2 v3 h2
set_option maxHeartbeats 4000000 in
set_option maxRecDepth 100000 in
theorem w_X9_stage_93 {p : Program} {l : Launch} {e : Env} {s : State} {m : MethodId} {args : Array Value} {below : List Frame} {meth : Method} {c : Code} {D : va_G} {cA : Nat → ClassId} {sz : Nat} {rr : Int64} {hh : Hp}  (X : ab_X p s m args meth c cX9_stage 7 RX9 D cA sz) (hr : meth.sig.returnType = (some .long))  {H : Heap} {locs : List Loc} {ls : Array Slot} {v0 : Option Nat} {v1 : Int32} {v2 : Int32} {v3 : Int32} {v4 : Int32} {u0 : Int32} {h : Hp} (S : ab_H D cA sz h s H locs) (hl : lv_has ls 7 [(0, va_rf v0), (1, .int v1), (2, .int v2), (3, .int v3), (4, .int v4)]) (hF : f_X9_stage_93 v0 v1 v2 v3 v4 u0 h = some (rr, hh)) : W p l e (ab_rm 3 0 0) s m args below meth c H locs 0 0 (MQ below (ab_Q D cA sz (some (.long rr)) hh) args s 0 0 (fun q => sz ≤ q)) (F0 m 93 ls [.int u0]) := by
  unfold f_X9_stage_93 at hF
  refine lv_istore (lv' := [(5, .int u0), (0, va_rf v0), (1, .int v1), (2, .int v2), (3, .int v3), (4, .int v4)]) X.1 X.2.1 dX9_stage_93 hl (by decide) (by simp [ab_cat, ab_cI, ab_cJ, ab_cD, ab_cF]) (fun ls hl => ?_)
  refine lv_iload_n X.1 X.2.1 dX9_stage_95 rfl (lv_at hl 3 rfl) ?_
  refine lv_iconst (v := 1) X.1 X.2.1 dX9_stage_96 (by decide) ?_
  refine lv_iload X.1 X.2.1 dX9_stage_97 (lv_at hl 0 rfl) ?_
  obtain ⟨x1, h2, e3, hF⟩ := bnd_out hF
  refine ab_callSi X S (c_X9_in l D cA sz e3) mi_X9_in lm_X9_343 lt_yX9_in (As := [.int v2, .int 1, .int u0]) (rest := []) rfl ⟨by decide, by decide⟩ ⟨(by decide), (by decide)⟩ hl.1 rfl (by simp [ab_cat, ab_cI, ab_cJ, ab_cD, ab_cF]) dX9_stage_99 (fun H1 locs1 S => ?_)
  refine lv_if_ne (tgt := 116) X.1 X.2.1 dX9_stage_102 (by decide) (fun c4 => ?_) (fun c4 => ?_)
  · have hF := ab_pos c4 hF
    exact w_X9_stage_116 X hr  S (lv_sub hl [1, 2, 3, 4] rfl) hF
  · have hF := ab_neg (fun q => q c4) hF
    refine lv_iload X.1 X.2.1 dX9_stage_105 (lv_at hl 5 rfl) ?_
    refine lv_iconst (v := 4) X.1 X.2.1 dX9_stage_107 (by decide) ?_
    refine lv_icmp_ne (tgt := 120) X.1 X.2.1 dX9_stage_108 (by decide) (fun c5 => ?_) (fun c5 => ?_)
    · have hF := ab_pos c5 hF
      exact w_X9_stage_120 X hr  S (lv_sub hl [1, 2, 3, 4] rfl) hF
    · have hF := ab_neg (fun q => q c5) hF
      refine lv_iload_n X.1 X.2.1 dX9_stage_111 rfl (lv_at hl 3 rfl) ?_
      refine lv_iconst (v := 5) X.1 X.2.1 dX9_stage_112 (by decide) ?_
      refine lv_icmp_ne (tgt := 120) X.1 X.2.1 dX9_stage_113 (by decide) (fun c6 => ?_) (fun c6 => ?_)
      · have hF := ab_pos c6 hF
        exact w_X9_stage_120 X hr  S (lv_sub hl [1, 2, 3, 4] rfl) hF
      · have hF := ab_neg (fun q => q c6) hF
        exact w_X9_stage_116 X hr  S (lv_sub hl [1, 2, 3, 4] rfl) hF
def f_X9_stage_71  (v0 : Option Nat) (v1 : Int32) (v2 : Int32) (v3 : Int32) (v4 : Int32) (h : Hp) : Option (Int64 × Hp) :=
  f_X9_stage_93 v0 v1 v2 v3 v4 2 h
set_option maxHeartbeats 4000000 in
set_option maxRecDepth 100000 in
theorem w_X9_stage_71 {p : Program} {l : Launch} {e : Env} {s : State} {m : MethodId} {args : Array Value} {below : List Frame} {meth : Method} {c : Code} {D : va_G} {cA : Nat → ClassId} {sz : Nat} {rr : Int64} {hh : Hp}  (X : ab_X p s m args meth c cX9_stage 7 RX9 D cA sz) (hr : meth.sig.returnType = (some .long))  {H : Heap} {locs : List Loc} {ls : Array Slot} {v0 : Option Nat} {v1 : Int32} {v2 : Int32} {v3 : Int32} {v4 : Int32} {h : Hp} (S : ab_H D cA sz h s H locs) (hl : lv_has ls 7 [(0, va_rf v0), (1, .int v1), (2, .int v2), (3, .int v3), (4, .int v4)]) (hF : f_X9_stage_71 v0 v1 v2 v3 v4 h = some (rr, hh)) : W p l e (ab_rm 3 0 0) s m args below meth c H locs 0 0 (MQ below (ab_Q D cA sz (some (.long rr)) hh) args s 0 0 (fun q => sz ≤ q)) (F0 m 71 ls []) := by
  unfold f_X9_stage_71 at hF
  refine lv_iconst (v := 2) X.1 X.2.1 dX9_stage_71 (by decide) ?_
  refine lv_goto (tgt := 93) X.1 X.2.1 dX9_stage_72 (by decide) ?_
  exact w_X9_stage_93 X hr  S (lv_sub hl [0, 1, 2, 3, 4] rfl) hF
def f_X9_stage_88  (v0 : Option Nat) (v1 : Int32) (v2 : Int32) (v3 : Int32) (v4 : Int32) (h : Hp) : Option (Int64 × Hp) :=
  f_X9_stage_93 v0 v1 v2 v3 v4 3 h
set_option maxHeartbeats 4000000 in
set_option maxRecDepth 100000 in
theorem w_X9_stage_88 {p : Program} {l : Launch} {e : Env} {s : State} {m : MethodId} {args : Array Value} {below : List Frame} {meth : Method} {c : Code} {D : va_G} {cA : Nat → ClassId} {sz : Nat} {rr : Int64} {hh : Hp}  (X : ab_X p s m args meth c cX9_stage 7 RX9 D cA sz) (hr : meth.sig.returnType = (some .long))  {H : Heap} {locs : List Loc} {ls : Array Slot} {v0 : Option Nat} {v1 : Int32} {v2 : Int32} {v3 : Int32} {v4 : Int32} {h : Hp} (S : ab_H D cA sz h s H locs) (hl : lv_has ls 7 [(0, va_rf v0), (1, .int v1), (2, .int v2), (3, .int v3), (4, .int v4)]) (hF : f_X9_stage_88 v0 v1 v2 v3 v4 h = some (rr, hh)) : W p l e (ab_rm 3 0 0) s m args below meth c H locs 0 0 (MQ below (ab_Q D cA sz (some (.long rr)) hh) args s 0 0 (fun q => sz ≤ q)) (F0 m 88 ls []) := by
  unfold f_X9_stage_88 at hF
  refine lv_iconst (v := 3) X.1 X.2.1 dX9_stage_88 (by decide) ?_
  refine lv_goto (tgt := 93) X.1 X.2.1 dX9_stage_89 (by decide) ?_
  exact w_X9_stage_93 X hr  S (lv_sub hl [0, 1, 2, 3, 4] rfl) hF
def f_X9_stage (this : Nat) (p0 : Int32) (p1 : Int32) (p2 : Int32) (h : Hp) : Option (Int64 × Hp) :=
  (ab_ck h (some this) (9, 0)).bind fun a4 =>
  bnd (f_X9_isRun a4 p0 h) fun x1 h2 =>
  if x1 = 0 then
    f_X9_stage_38 h2
  else
    (getR h2 (some this) 9 0).bind fun x7 =>
    (getR h2 (some this) 9 15).bind fun x8 =>
    (aldI h2 x8 11 p0).bind fun x9 =>
    (aldI h2 x7 11 x9).bind fun x10 =>
    bnd (f_X9_in p2 0 (x10 - 1) h2) fun x11 h12 =>
    if x11 = 0 then
      f_X9_stage_38 h12
    else
      (getR h12 (some this) 9 23).bind fun x15 =>
      (aldI h12 x15 12 p0).bind fun x16 =>
      if ¬ x16 = 0 then
        (getR h12 (some this) 9 37).bind fun x18 =>
        (aldI h12 x18 11 p0).bind fun x19 =>
        if ¬ x19 = 0 then
          if x19 = 1 then
            f_X9_stage_71 (some this) p0 p1 p2 x19 h12
          else
            if ¬ x19 = 5 then
              if x19 = 2 then
                f_X9_stage_88 (some this) p0 p1 p2 x19 h12
              else
                if ¬ x19 = 6 then
                  f_X9_stage_93 (some this) p0 p1 p2 x19 4 h12
                else
                  f_X9_stage_88 (some this) p0 p1 p2 x19 h12
            else
              f_X9_stage_71 (some this) p0 p1 p2 x19 h12
        else
          f_X9_stage_93 (some this) p0 p1 p2 x19 1 h12
      else
        f_X9_stage_38 h12
theorem mi_X9_stage : ab_MI yX9_stage cX9_stage 7 (some .long) 3 := ⟨lc_yX9_stage, lz_RX9, by decide, by decide, by decide +kernel⟩
set_option maxHeartbeats 4000000 in
set_option maxRecDepth 100000 in
theorem c_X9_stage (l : Launch) (D : va_G) (cA : Nat → ClassId) (sz : Nat) {this : Nat} {p0 : Int32} {p1 : Int32} {p2 : Int32} {h hh : Hp} {rr : Int64} (hF : f_X9_stage this p0 p1 p2 h = some (rr, hh)) : ab_C l D cA sz yX9_stage cX9_stage 7 (some .long) 3 0 0 [.ref this, .int p0, .int p1, .int p2] h (some (.long rr)) hh := by
  refine Met.ofW (cc := cX9_stage) (maxL := 7) (ret := (some .long)) (by decide) rfl ?_
  intro p e s m args below meth c s₁ B hml hv
  obtain ⟨rfl, hT, hR⟩ := hv
  have X : ab_X p s m _ meth c cX9_stage 7 RX9 D cA sz := (ab_enter B hml hT hR).1
  have S := (ab_enter B hml hT hR).2
  have hr := B.returns
  obtain ⟨ls, hls, hl⟩ := ab_entry m [.ref this, .int p0, .int p1, .int p2] 7 (lv := [(0, .ref this), (1, .int p0), (2, .int p1), (3, .int p2)]) (by simp [lg_sl, ab_cat, ab_cI, ab_cJ, ab_cD, ab_cF, ab_cA]) (by simp [lv_args, ab_cat, ab_cI, ab_cJ, ab_cD, ab_cF, ab_cA])
  rw [hls]
  have hl : lv_has ls 7 [(0, va_rf (some this)), (1, .int p0), (2, .int p1), (3, .int p2)] := hl
  unfold f_X9_stage at hF
  show W p l e (ab_rm 3 0 0) s m _ below meth c s.heap [] 0 0 _ _
  refine ab_aload_n X dX9_stage_0 rfl (lv_at hl 0 rfl) ?_
  refine lv_iload_n X.1 X.2.1 dX9_stage_1 rfl (lv_at hl 1 rfl) ?_
  obtain ⟨a4, e5, hF⟩ := bind_out hF
  obtain ⟨x1, h2, e3, hF⟩ := bnd_out hF
  refine ab_callVi X S e5 (c_X9_isRun l D cA sz e3) rfl (by decide) mi_X9_isRun lm_X9_366 li_yX9_isRun ls_yX9_isRun (As := [.int p0]) (rest := []) rfl ⟨by decide, by decide⟩ ⟨(by decide), (by decide)⟩ hl.1 rfl (by simp [ab_cat, ab_cI, ab_cJ, ab_cD, ab_cF]) dX9_stage_2 (fun H1 locs1 S => ?_)
  refine lv_if_eq (tgt := 38) X.1 X.2.1 dX9_stage_5 (by decide) (fun c6 => ?_) (fun c6 => ?_)
  · have hF := ab_pos c6 hF
    exact w_X9_stage_38 X hr  S (lv_sub hl [] rfl) hF
  · have hF := ab_neg c6 hF
    refine lv_iload_n X.1 X.2.1 dX9_stage_8 rfl (lv_at hl 3 rfl) ?_
    refine lv_iconst (v := 0) X.1 X.2.1 dX9_stage_9 (by decide) ?_
    refine ab_aload_n X dX9_stage_10 rfl (lv_at hl 0 rfl) ?_
    refine ab_getR X S hF fi_9_0 lf_X9_9 dX9_stage_11 (fun x7 hF => ?_)
    refine ab_aload_n X dX9_stage_14 rfl (lv_at hl 0 rfl) ?_
    refine ab_getR X S hF fi_9_15 lf_X9_52 dX9_stage_15 (fun x8 hF => ?_)
    refine lv_iload_n X.1 X.2.1 dX9_stage_18 rfl (lv_at hl 1 rfl) ?_
    refine ab_aldI X S hF dX9_stage_19 (fun x9 hF => ?_)
    refine ab_aldI X S hF dX9_stage_20 (fun x10 hF => ?_)
    refine lv_iconst (v := 1) X.1 X.2.1 dX9_stage_21 (by decide) ?_
    refine lv_isub X.1 X.2.1 dX9_stage_22 ?_
    obtain ⟨x11, h12, e13, hF⟩ := bnd_out hF
    refine ab_callSi X S (c_X9_in l D cA sz e13) mi_X9_in lm_X9_343 lt_yX9_in (As := [.int p2, .int 0, .int (x10 - 1)]) (rest := []) rfl ⟨by decide, by decide⟩ ⟨(by decide), (by decide)⟩ hl.1 rfl (by simp [ab_cat, ab_cI, ab_cJ, ab_cD, ab_cF]) dX9_stage_23 (fun H1 locs1 S => ?_)
    refine lv_if_eq (tgt := 38) X.1 X.2.1 dX9_stage_26 (by decide) (fun c14 => ?_) (fun c14 => ?_)
    · have hF := ab_pos c14 hF
      exact w_X9_stage_38 X hr  S (lv_sub hl [] rfl) hF
    · have hF := ab_neg c14 hF
      refine ab_aload_n X dX9_stage_29 rfl (lv_at hl 0 rfl) ?_
      refine ab_getR X S hF fi_9_23 lf_X9_77 dX9_stage_30 (fun x15 hF => ?_)
      refine lv_iload_n X.1 X.2.1 dX9_stage_33 rfl (lv_at hl 1 rfl) ?_
      refine ab_aldZ X S hF dX9_stage_34 (fun x16 hF => ?_)
      refine lv_if_ne (tgt := 42) X.1 X.2.1 dX9_stage_35 (by decide) (fun c17 => ?_) (fun c17 => ?_)
      · have hF := ab_pos c17 hF
        refine ab_aload_n X dX9_stage_42 rfl (lv_at hl 0 rfl) ?_
        refine ab_getR X S hF fi_9_37 lf_X9_119 dX9_stage_43 (fun x18 hF => ?_)
        refine lv_iload_n X.1 X.2.1 dX9_stage_46 rfl (lv_at hl 1 rfl) ?_
        refine ab_aldI X S hF dX9_stage_47 (fun x19 hF => ?_)
        refine lv_istore (lv' := [(4, .int x19), (0, va_rf (some this)), (1, .int p0), (2, .int p1), (3, .int p2)]) X.1 X.2.1 dX9_stage_48 hl (by decide) (by simp [ab_cat, ab_cI, ab_cJ, ab_cD, ab_cF]) (fun ls hl => ?_)
        refine lv_iload X.1 X.2.1 dX9_stage_50 (lv_at hl 0 rfl) ?_
        refine lv_if_ne (tgt := 59) X.1 X.2.1 dX9_stage_52 (by decide) (fun c20 => ?_) (fun c20 => ?_)
        · have hF := ab_pos c20 hF
          refine lv_iload X.1 X.2.1 dX9_stage_59 (lv_at hl 0 rfl) ?_
          refine lv_iconst (v := 1) X.1 X.2.1 dX9_stage_61 (by decide) ?_
          refine lv_icmp_eq (tgt := 71) X.1 X.2.1 dX9_stage_62 (by decide) (fun c21 => ?_) (fun c21 => ?_)
          · have hF := ab_pos c21 hF
            exact w_X9_stage_71 X hr  S (lv_sub hl [1, 2, 3, 4, 0] rfl) hF
          · have hF := ab_neg c21 hF
            refine lv_iload X.1 X.2.1 dX9_stage_65 (lv_at hl 0 rfl) ?_
            refine lv_iconst (v := 5) X.1 X.2.1 dX9_stage_67 (by decide) ?_
            refine lv_icmp_ne (tgt := 75) X.1 X.2.1 dX9_stage_68 (by decide) (fun c22 => ?_) (fun c22 => ?_)
            · have hF := ab_pos c22 hF
              refine lv_iload X.1 X.2.1 dX9_stage_75 (lv_at hl 0 rfl) ?_
              refine lv_iconst (v := 2) X.1 X.2.1 dX9_stage_77 (by decide) ?_
              refine lv_icmp_eq (tgt := 88) X.1 X.2.1 dX9_stage_78 (by decide) (fun c23 => ?_) (fun c23 => ?_)
              · have hF := ab_pos c23 hF
                exact w_X9_stage_88 X hr  S (lv_sub hl [1, 2, 3, 4, 0] rfl) hF
              · have hF := ab_neg c23 hF
                refine lv_iload X.1 X.2.1 dX9_stage_81 (lv_at hl 0 rfl) ?_
                refine lv_bipush (v := 6) X.1 X.2.1 dX9_stage_83 (by decide) ?_
                refine lv_icmp_ne (tgt := 92) X.1 X.2.1 dX9_stage_85 (by decide) (fun c24 => ?_) (fun c24 => ?_)
                · have hF := ab_pos c24 hF
                  refine lv_iconst (v := 4) X.1 X.2.1 dX9_stage_92 (by decide) ?_
                  exact w_X9_stage_93 X hr  S (lv_sub hl [1, 2, 3, 4, 0] rfl) hF
                · have hF := ab_neg (fun q => q c24) hF
                  exact w_X9_stage_88 X hr  S (lv_sub hl [1, 2, 3, 4, 0] rfl) hF
            · have hF := ab_neg (fun q => q c22) hF
              exact w_X9_stage_71 X hr  S (lv_sub hl [1, 2, 3, 4, 0] rfl) hF
        · have hF := ab_neg (fun q => q c20) hF
          refine lv_iconst (v := 1) X.1 X.2.1 dX9_stage_55 (by decide) ?_
          refine lv_goto (tgt := 93) X.1 X.2.1 dX9_stage_56 (by decide) ?_
          exact w_X9_stage_93 X hr  S (lv_sub hl [1, 2, 3, 4, 0] rfl) hF
      · have hF := ab_neg (fun q => q c17) hF
        exact w_X9_stage_38 X hr  S (lv_sub hl [] rfl) hF
def f_X9_value_29   (h : Hp) : Option (Int64 × Hp) :=
  some ((9221120237041090560), h)
set_option maxHeartbeats 4000000 in
set_option maxRecDepth 100000 in
theorem w_X9_value_29 {p : Program} {l : Launch} {e : Env} {s : State} {m : MethodId} {args : Array Value} {below : List Frame} {meth : Method} {c : Code} {D : va_G} {cA : Nat → ClassId} {sz : Nat} {rr : Int64} {hh : Hp}  (X : ab_X p s m args meth c cX9_value 4 RX9 D cA sz) (hr : meth.sig.returnType = (some .long))  {H : Heap} {locs : List Loc} {ls : Array Slot}  {h : Hp} (S : ab_H D cA sz h s H locs) (hl : lv_has ls 4 []) (hF : f_X9_value_29  h = some (rr, hh)) : W p l e (ab_rm 5 0 0) s m args below meth c H locs 0 0 (MQ below (ab_Q D cA sz (some (.long rr)) hh) args s 0 0 (fun q => sz ≤ q)) (F0 m 29 ls []) := by
  unfold f_X9_value_29 at hF
  refine lv_ldc2 (v := (9221120237041090560)) X.1 X.2.1 X.2.2.2.1 (X.2.2.2.2.1 _ ll_X9_198) dX9_value_29 ?_
  exact ab_lret X S hr hF dX9_value_32
def f_X9_value_35  : Nat → Option Nat → Int32 → Int32 → Int32 → Hp → Option (Int64 × Hp)
  | 0, _, _, _, _, _ => none
  | n + 1, v0, v1, v2, v3, h => (getR h v0 9 0).bind fun x1 =>
    (getR h v0 9 15).bind fun x2 =>
    (aldI h x2 11 v1).bind fun x3 =>
    (aldI h x1 11 x3).bind fun x4 =>
    if x4 ≤ v3 then
      (getR h v0 9 15).bind fun x6 =>
      (aldI h x6 11 v1).bind fun x7 =>
      (getR h v0 9 25).bind fun x8 =>
      (aldD h x8 v1).bind fun x9 =>
      (getR h v0 9 56).bind fun x10 =>
      (ab_ck h v0 (9, 0)).bind fun a14 =>
      bnd (f_X9_all a14 x7 x9 x10 h) fun _ h12 =>
      (getR h12 v0 9 46).bind fun x16 =>
      (aldD h12 x16 v2).bind fun x17 =>
      bnd (f_X9_bits x17 h12) fun x18 h19 =>
      some (x18, h19)
    else
      (getR h v0 9 56).bind fun x21 =>
      (getR h v0 9 30).bind fun x22 =>
      (aldD h x22 ((6 * v1) + v3)).bind fun x23 =>
      (astD h x21 v3 x23).bind fun h24 =>
      f_X9_value_35 n v0 v1 v2 (v3 + 1) h24
set_option maxHeartbeats 4000000 in
set_option maxRecDepth 100000 in
theorem w_X9_value_35 {p : Program} {l : Launch} {e : Env} {s : State} {m : MethodId} {args : Array Value} {below : List Frame} {meth : Method} {c : Code} {D : va_G} {cA : Nat → ClassId} {sz : Nat} {rr : Int64} {hh : Hp}  (X : ab_X p s m args meth c cX9_value 4 RX9 D cA sz) (hr : meth.sig.returnType = (some .long))  (n : Nat) : ∀ (v0 : Option Nat) (v1 : Int32) (v2 : Int32) (v3 : Int32) (h : Hp) (H : Heap) (locs : List Loc) (ls : Array Slot), ab_H D cA sz h s H locs → lv_has ls 4 [(0, va_rf v0), (1, .int v1), (2, .int v2), (3, .int v3)] → f_X9_value_35 n v0 v1 v2 v3 h = some (rr, hh) → W p l e (ab_rm 5 0 0) s m args below meth c H locs 0 0 (MQ below (ab_Q D cA sz (some (.long rr)) hh) args s 0 0 (fun q => sz ≤ q)) (F0 m 35 ls []) := by
  induction n with
  | zero => intro v0 v1 v2 v3 h H locs ls S hl hF; cases hF
  | succ n ih =>
    intro v0 v1 v2 v3 h H locs ls S hl hF
    rw [f_X9_value_35] at hF
    refine lv_iload_n X.1 X.2.1 dX9_value_35 rfl (lv_at hl 3 rfl) ?_
    refine ab_aload_n X dX9_value_36 rfl (lv_at hl 0 rfl) ?_
    refine ab_getR X S hF fi_9_0 lf_X9_9 dX9_value_37 (fun x1 hF => ?_)
    refine ab_aload_n X dX9_value_40 rfl (lv_at hl 0 rfl) ?_
    refine ab_getR X S hF fi_9_15 lf_X9_52 dX9_value_41 (fun x2 hF => ?_)
    refine lv_iload_n X.1 X.2.1 dX9_value_44 rfl (lv_at hl 1 rfl) ?_
    refine ab_aldI X S hF dX9_value_45 (fun x3 hF => ?_)
    refine ab_aldI X S hF dX9_value_46 (fun x4 hF => ?_)
    refine lv_icmp_ge (tgt := 73) X.1 X.2.1 dX9_value_47 (by decide) (fun c5 => ?_) (fun c5 => ?_)
    · have hF := ab_pos c5 hF
      refine ab_aload_n X dX9_value_73 rfl (lv_at hl 0 rfl) ?_
      refine ab_aload_n X dX9_value_74 rfl (lv_at hl 0 rfl) ?_
      refine ab_getR X S hF fi_9_15 lf_X9_52 dX9_value_75 (fun x6 hF => ?_)
      refine lv_iload_n X.1 X.2.1 dX9_value_78 rfl (lv_at hl 1 rfl) ?_
      refine ab_aldI X S hF dX9_value_79 (fun x7 hF => ?_)
      refine ab_aload_n X dX9_value_80 rfl (lv_at hl 0 rfl) ?_
      refine ab_getR X S hF fi_9_25 lf_X9_83 dX9_value_81 (fun x8 hF => ?_)
      refine lv_iload_n X.1 X.2.1 dX9_value_84 rfl (lv_at hl 1 rfl) ?_
      refine ab_aldD X S hF dX9_value_85 (fun x9 hF => ?_)
      refine ab_aload_n X dX9_value_86 rfl (lv_at hl 0 rfl) ?_
      refine ab_getR X S hF fi_9_56 lf_X9_173 dX9_value_87 (fun x10 hF => ?_)
      obtain ⟨a14, e15, hF⟩ := bind_out hF
      obtain ⟨x11, h12, e13, hF⟩ := bnd_out hF
      refine ab_callVv X S e15 (c_X9_all l D cA sz e13) rfl (by decide) mi_X9_all lm_X9_242 li_yX9_all ls_yX9_all (As := [.int x7, .double x9, va_rf x10]) (rest := []) rfl ⟨by decide, by decide⟩ ⟨(by decide), (by decide)⟩ hl.1 rfl (by simp [ab_cat, ab_cI, ab_cJ, ab_cD, ab_cF]) dX9_value_90 (fun H1 locs1 S => ?_)
      refine ab_aload_n X dX9_value_93 rfl (lv_at hl 0 rfl) ?_
      refine ab_getR X S hF fi_9_46 lf_X9_143 dX9_value_94 (fun x16 hF => ?_)
      refine lv_iload_n X.1 X.2.1 dX9_value_97 rfl (lv_at hl 2 rfl) ?_
      refine ab_aldD X S hF dX9_value_98 (fun x17 hF => ?_)
      obtain ⟨x18, h19, e20, hF⟩ := bnd_out hF
      refine ab_callSl X S (c_X9_bits l D cA sz e20) mi_X9_bits lm_X9_377 lt_yX9_bits (As := [.double x17]) (rest := []) rfl ⟨by decide, by decide⟩ ⟨(by decide), (by decide)⟩ hl.1 rfl (by simp [ab_cat, ab_cI, ab_cJ, ab_cD, ab_cF]) dX9_value_99 (fun H1 locs1 S => ?_)
      exact ab_lret X S hr hF dX9_value_102
    · have hF := ab_neg c5 hF
      refine ab_aload_n X dX9_value_50 rfl (lv_at hl 0 rfl) ?_
      refine ab_getR X S hF fi_9_56 lf_X9_173 dX9_value_51 (fun x21 hF => ?_)
      refine lv_iload_n X.1 X.2.1 dX9_value_54 rfl (lv_at hl 3 rfl) ?_
      refine ab_aload_n X dX9_value_55 rfl (lv_at hl 0 rfl) ?_
      refine ab_getR X S hF fi_9_30 lf_X9_98 dX9_value_56 (fun x22 hF => ?_)
      refine lv_bipush (v := 6) X.1 X.2.1 dX9_value_59 (by decide) ?_
      refine lv_iload_n X.1 X.2.1 dX9_value_61 rfl (lv_at hl 1 rfl) ?_
      refine lv_imul X.1 X.2.1 dX9_value_62 ?_
      refine lv_iload_n X.1 X.2.1 dX9_value_63 rfl (lv_at hl 3 rfl) ?_
      refine lv_iadd X.1 X.2.1 dX9_value_64 ?_
      refine ab_aldD X S hF dX9_value_65 (fun x23 hF => ?_)
      refine ab_astD X S hF dX9_value_66 (fun h24 H1 locs1 hF S => ?_)
      refine lv_iinc (v := v3 + 1) (lv' := [(3, .int (v3 + 1)), (0, va_rf v0), (1, .int v1), (2, .int v2)]) X.1 X.2.1 dX9_value_67 hl (k := 3) rfl (by rfl) (by decide) (by simp [ab_cat, ab_cI, ab_cJ, ab_cD, ab_cF]) (fun ls hl => ?_)
      refine lv_goto (tgt := 35) X.1 X.2.1 dX9_value_70 (by decide) ?_
      exact ih _ _ _ _ _ _ _ _ S (lv_sub hl [1, 2, 3, 0] rfl) hF
def f_X9_value (this : Nat) (p0 : Int32) (p1 : Int32) (h : Hp) : Option (Int64 × Hp) :=
  (ab_ck h (some this) (9, 0)).bind fun a4 =>
  bnd (f_X9_isRun a4 p0 h) fun x1 h2 =>
  if x1 = 0 then
    f_X9_value_29 h2
  else
    (getR h2 (some this) 9 2).bind fun x7 =>
    (getR h2 (some this) 9 15).bind fun x8 =>
    (aldI h2 x8 11 p0).bind fun x9 =>
    (aldI h2 x7 11 x9).bind fun x10 =>
    bnd (f_X9_in p1 0 (x10 - 1) h2) fun x11 h12 =>
    if ¬ x11 = 0 then
      f_X9_value_35 fuelN (some this) p0 p1 0 h12
    else
      f_X9_value_29 h12
theorem mi_X9_value : ab_MI yX9_value cX9_value 4 (some .long) 2 := ⟨lc_yX9_value, lz_RX9, by decide, by decide, by decide +kernel⟩
set_option maxHeartbeats 4000000 in
set_option maxRecDepth 100000 in
theorem c_X9_value (l : Launch) (D : va_G) (cA : Nat → ClassId) (sz : Nat) {this : Nat} {p0 : Int32} {p1 : Int32} {h hh : Hp} {rr : Int64} (hF : f_X9_value this p0 p1 h = some (rr, hh)) : ab_C l D cA sz yX9_value cX9_value 4 (some .long) 5 0 0 [.ref this, .int p0, .int p1] h (some (.long rr)) hh := by
  refine Met.ofW (cc := cX9_value) (maxL := 4) (ret := (some .long)) (by decide) rfl ?_
  intro p e s m args below meth c s₁ B hml hv
  obtain ⟨rfl, hT, hR⟩ := hv
  have X : ab_X p s m _ meth c cX9_value 4 RX9 D cA sz := (ab_enter B hml hT hR).1
  have S := (ab_enter B hml hT hR).2
  have hr := B.returns
  obtain ⟨ls, hls, hl⟩ := ab_entry m [.ref this, .int p0, .int p1] 4 (lv := [(0, .ref this), (1, .int p0), (2, .int p1)]) (by simp [lg_sl, ab_cat, ab_cI, ab_cJ, ab_cD, ab_cF, ab_cA]) (by simp [lv_args, ab_cat, ab_cI, ab_cJ, ab_cD, ab_cF, ab_cA])
  rw [hls]
  have hl : lv_has ls 4 [(0, va_rf (some this)), (1, .int p0), (2, .int p1)] := hl
  unfold f_X9_value at hF
  show W p l e (ab_rm 5 0 0) s m _ below meth c s.heap [] 0 0 _ _
  refine ab_aload_n X dX9_value_0 rfl (lv_at hl 0 rfl) ?_
  refine lv_iload_n X.1 X.2.1 dX9_value_1 rfl (lv_at hl 1 rfl) ?_
  obtain ⟨a4, e5, hF⟩ := bind_out hF
  obtain ⟨x1, h2, e3, hF⟩ := bnd_out hF
  refine ab_callVi X S e5 (c_X9_isRun l D cA sz e3) rfl (by decide) mi_X9_isRun lm_X9_366 li_yX9_isRun ls_yX9_isRun (As := [.int p0]) (rest := []) rfl ⟨by decide, by decide⟩ ⟨(by decide), (by decide)⟩ hl.1 rfl (by simp [ab_cat, ab_cI, ab_cJ, ab_cD, ab_cF]) dX9_value_2 (fun H1 locs1 S => ?_)
  refine lv_if_eq (tgt := 29) X.1 X.2.1 dX9_value_5 (by decide) (fun c6 => ?_) (fun c6 => ?_)
  · have hF := ab_pos c6 hF
    exact w_X9_value_29 X hr  S (lv_sub hl [] rfl) hF
  · have hF := ab_neg c6 hF
    refine lv_iload_n X.1 X.2.1 dX9_value_8 rfl (lv_at hl 2 rfl) ?_
    refine lv_iconst (v := 0) X.1 X.2.1 dX9_value_9 (by decide) ?_
    refine ab_aload_n X dX9_value_10 rfl (lv_at hl 0 rfl) ?_
    refine ab_getR X S hF fi_9_2 lf_X9_18 dX9_value_11 (fun x7 hF => ?_)
    refine ab_aload_n X dX9_value_14 rfl (lv_at hl 0 rfl) ?_
    refine ab_getR X S hF fi_9_15 lf_X9_52 dX9_value_15 (fun x8 hF => ?_)
    refine lv_iload_n X.1 X.2.1 dX9_value_18 rfl (lv_at hl 1 rfl) ?_
    refine ab_aldI X S hF dX9_value_19 (fun x9 hF => ?_)
    refine ab_aldI X S hF dX9_value_20 (fun x10 hF => ?_)
    refine lv_iconst (v := 1) X.1 X.2.1 dX9_value_21 (by decide) ?_
    refine lv_isub X.1 X.2.1 dX9_value_22 ?_
    obtain ⟨x11, h12, e13, hF⟩ := bnd_out hF
    refine ab_callSi X S (c_X9_in l D cA sz e13) mi_X9_in lm_X9_343 lt_yX9_in (As := [.int p1, .int 0, .int (x10 - 1)]) (rest := []) rfl ⟨by decide, by decide⟩ ⟨(by decide), (by decide)⟩ hl.1 rfl (by simp [ab_cat, ab_cI, ab_cJ, ab_cD, ab_cF]) dX9_value_23 (fun H1 locs1 S => ?_)
    refine lv_if_ne (tgt := 33) X.1 X.2.1 dX9_value_26 (by decide) (fun c14 => ?_) (fun c14 => ?_)
    · have hF := ab_pos c14 hF
      refine lv_iconst (v := 0) X.1 X.2.1 dX9_value_33 (by decide) ?_
      refine lv_istore_n (i := 3) (lv' := [(3, .int 0), (0, va_rf (some this)), (1, .int p0), (2, .int p1)]) X.1 X.2.1 dX9_value_34 rfl hl (by decide) (by simp [ab_cat, ab_cI, ab_cJ, ab_cD, ab_cF]) (fun ls hl => ?_)
      exact w_X9_value_35 X hr  fuelN _ _ _ _ _ _ _ _ S (lv_sub hl [1, 2, 3, 0] rfl) hF
    · have hF := ab_neg (fun q => q c14) hF
      exact w_X9_value_29 X hr  S (lv_sub hl [] rfl) hF
def f_X9_between_49   (h : Hp) : Option (Int64 × Hp) :=
  some ((9221120237041090560), h)
set_option maxHeartbeats 4000000 in
set_option maxRecDepth 100000 in
theorem w_X9_between_49 {p : Program} {l : Launch} {e : Env} {s : State} {m : MethodId} {args : Array Value} {below : List Frame} {meth : Method} {c : Code} {D : va_G} {cA : Nat → ClassId} {sz : Nat} {rr : Int64} {hh : Hp}  (X : ab_X p s m args meth c cX9_between 8 RX9 D cA sz) (hr : meth.sig.returnType = (some .long))  {H : Heap} {locs : List Loc} {ls : Array Slot}  {h : Hp} (S : ab_H D cA sz h s H locs) (hl : lv_has ls 8 []) (hF : f_X9_between_49  h = some (rr, hh)) : W p l e (ab_rm 3 0 0) s m args below meth c H locs 0 0 (MQ below (ab_Q D cA sz (some (.long rr)) hh) args s 0 0 (fun q => sz ≤ q)) (F0 m 49 ls []) := by
  unfold f_X9_between_49 at hF
  refine lv_ldc2 (v := (9221120237041090560)) X.1 X.2.1 X.2.2.2.1 (X.2.2.2.2.1 _ ll_X9_198) dX9_between_49 ?_
  exact ab_lret X S hr hF dX9_between_52
def f_X9_between_92  (u0 : Int64) (h : Hp) : Option (Int64 × Hp) :=
  some (u0, h)
set_option maxHeartbeats 4000000 in
set_option maxRecDepth 100000 in
theorem w_X9_between_92 {p : Program} {l : Launch} {e : Env} {s : State} {m : MethodId} {args : Array Value} {below : List Frame} {meth : Method} {c : Code} {D : va_G} {cA : Nat → ClassId} {sz : Nat} {rr : Int64} {hh : Hp}  (X : ab_X p s m args meth c cX9_between 8 RX9 D cA sz) (hr : meth.sig.returnType = (some .long))  {H : Heap} {locs : List Loc} {ls : Array Slot} {u0 : Int64} {h : Hp} (S : ab_H D cA sz h s H locs) (hl : lv_has ls 8 []) (hF : f_X9_between_92 u0 h = some (rr, hh)) : W p l e (ab_rm 3 0 0) s m args below meth c H locs 0 0 (MQ below (ab_Q D cA sz (some (.long rr)) hh) args s 0 0 (fun q => sz ≤ q)) (F0 m 92 ls [.long u0]) := by
  unfold f_X9_between_92 at hF
  exact ab_lret X S hr hF dX9_between_92
def f_X9_between_75   (h : Hp) : Option (Int64 × Hp) :=
  f_X9_between_92 (9221120237041090560) h
set_option maxHeartbeats 4000000 in
set_option maxRecDepth 100000 in
theorem w_X9_between_75 {p : Program} {l : Launch} {e : Env} {s : State} {m : MethodId} {args : Array Value} {below : List Frame} {meth : Method} {c : Code} {D : va_G} {cA : Nat → ClassId} {sz : Nat} {rr : Int64} {hh : Hp}  (X : ab_X p s m args meth c cX9_between 8 RX9 D cA sz) (hr : meth.sig.returnType = (some .long))  {H : Heap} {locs : List Loc} {ls : Array Slot}  {h : Hp} (S : ab_H D cA sz h s H locs) (hl : lv_has ls 8 []) (hF : f_X9_between_75  h = some (rr, hh)) : W p l e (ab_rm 3 0 0) s m args below meth c H locs 0 0 (MQ below (ab_Q D cA sz (some (.long rr)) hh) args s 0 0 (fun q => sz ≤ q)) (F0 m 75 ls []) := by
  unfold f_X9_between_75 at hF
  refine lv_ldc2 (v := (9221120237041090560)) X.1 X.2.1 X.2.2.2.1 (X.2.2.2.2.1 _ ll_X9_198) dX9_between_75 ?_
  refine lv_goto (tgt := 92) X.1 X.2.1 dX9_between_78 (by decide) ?_
  exact w_X9_between_92 X hr  S (lv_sub hl [] rfl) hF
def f_X9_between (this : Nat) (p0 : Int32) (p1 : Int32) (p2 : Int64) (p3 : Int32) (h : Hp) : Option (Int64 × Hp) :=
  (ab_ck h (some this) (9, 0)).bind fun a4 =>
  bnd (f_X9_isRun a4 p0 h) fun x1 h2 =>
  if x1 = 0 then
    f_X9_between_49 h2
  else
    (getR h2 (some this) 9 0).bind fun x7 =>
    (getR h2 (some this) 9 15).bind fun x8 =>
    (aldI h2 x8 11 p0).bind fun x9 =>
    (aldI h2 x7 11 x9).bind fun x10 =>
    bnd (f_X9_in p1 0 (x10 - 1) h2) fun x11 h12 =>
    if x11 = 0 then
      f_X9_between_49 h12
    else
      (getR h12 (some this) 9 23).bind fun x15 =>
      (aldI h12 x15 12 p0).bind fun x16 =>
      if x16 = 0 then
        f_X9_between_49 h12
      else
        bnd (f_X9_in p3 0 30 h12) fun x18 h19 =>
        if ¬ x18 = 0 then
          bnd (f_X9_number p2 p3 h19) fun x22 h23 =>
          if (Op.cmpValue (FP.dcmp x22 FP.dconst0) CmpOp.g) < 0 then
            f_X9_between_75 h23
          else
            if (Op.cmpValue (FP.dcmp x22 FP.dconst1) CmpOp.l) ≤ 0 then
              (ab_ck h23 (some this) (9, 0)).bind fun a30 =>
              bnd (f_X9_cubic a30 p0 p1 x22 h23) fun x27 h28 =>
              bnd (f_X9_bits x27 h28) fun x32 h33 =>
              f_X9_between_92 x32 h33
            else
              f_X9_between_75 h23
        else
          f_X9_between_49 h19
theorem mi_X9_between : ab_MI yX9_between cX9_between 8 (some .long) 4 := ⟨lc_yX9_between, lz_RX9, by decide, by decide, by decide +kernel⟩
set_option maxHeartbeats 4000000 in
set_option maxRecDepth 100000 in
theorem c_X9_between (l : Launch) (D : va_G) (cA : Nat → ClassId) (sz : Nat) {this : Nat} {p0 : Int32} {p1 : Int32} {p2 : Int64} {p3 : Int32} {h hh : Hp} {rr : Int64} (hF : f_X9_between this p0 p1 p2 p3 h = some (rr, hh)) : ab_C l D cA sz yX9_between cX9_between 8 (some .long) 3 0 0 [.ref this, .int p0, .int p1, .long p2, .int p3] h (some (.long rr)) hh := by
  refine Met.ofW (cc := cX9_between) (maxL := 8) (ret := (some .long)) (by decide) rfl ?_
  intro p e s m args below meth c s₁ B hml hv
  obtain ⟨rfl, hT, hR⟩ := hv
  have X : ab_X p s m _ meth c cX9_between 8 RX9 D cA sz := (ab_enter B hml hT hR).1
  have S := (ab_enter B hml hT hR).2
  have hr := B.returns
  obtain ⟨ls, hls, hl⟩ := ab_entry m [.ref this, .int p0, .int p1, .long p2, .int p3] 8 (lv := [(0, .ref this), (1, .int p0), (2, .int p1), (3, .long p2), (5, .int p3)]) (by simp [lg_sl, ab_cat, ab_cI, ab_cJ, ab_cD, ab_cF, ab_cA]) (by simp [lv_args, ab_cat, ab_cI, ab_cJ, ab_cD, ab_cF, ab_cA])
  rw [hls]
  have hl : lv_has ls 8 [(0, va_rf (some this)), (1, .int p0), (2, .int p1), (3, .long p2), (5, .int p3)] := hl
  unfold f_X9_between at hF
  show W p l e (ab_rm 3 0 0) s m _ below meth c s.heap [] 0 0 _ _
  refine ab_aload_n X dX9_between_0 rfl (lv_at hl 0 rfl) ?_
  refine lv_iload_n X.1 X.2.1 dX9_between_1 rfl (lv_at hl 1 rfl) ?_
  obtain ⟨a4, e5, hF⟩ := bind_out hF
  obtain ⟨x1, h2, e3, hF⟩ := bnd_out hF
  refine ab_callVi X S e5 (c_X9_isRun l D cA sz e3) rfl (by decide) mi_X9_isRun lm_X9_366 li_yX9_isRun ls_yX9_isRun (As := [.int p0]) (rest := []) rfl ⟨by decide, by decide⟩ ⟨(by decide), (by decide)⟩ hl.1 rfl (by simp [ab_cat, ab_cI, ab_cJ, ab_cD, ab_cF]) dX9_between_2 (fun H1 locs1 S => ?_)
  refine lv_if_eq (tgt := 49) X.1 X.2.1 dX9_between_5 (by decide) (fun c6 => ?_) (fun c6 => ?_)
  · have hF := ab_pos c6 hF
    exact w_X9_between_49 X hr  S (lv_sub hl [] rfl) hF
  · have hF := ab_neg c6 hF
    refine lv_iload_n X.1 X.2.1 dX9_between_8 rfl (lv_at hl 2 rfl) ?_
    refine lv_iconst (v := 0) X.1 X.2.1 dX9_between_9 (by decide) ?_
    refine ab_aload_n X dX9_between_10 rfl (lv_at hl 0 rfl) ?_
    refine ab_getR X S hF fi_9_0 lf_X9_9 dX9_between_11 (fun x7 hF => ?_)
    refine ab_aload_n X dX9_between_14 rfl (lv_at hl 0 rfl) ?_
    refine ab_getR X S hF fi_9_15 lf_X9_52 dX9_between_15 (fun x8 hF => ?_)
    refine lv_iload_n X.1 X.2.1 dX9_between_18 rfl (lv_at hl 1 rfl) ?_
    refine ab_aldI X S hF dX9_between_19 (fun x9 hF => ?_)
    refine ab_aldI X S hF dX9_between_20 (fun x10 hF => ?_)
    refine lv_iconst (v := 1) X.1 X.2.1 dX9_between_21 (by decide) ?_
    refine lv_isub X.1 X.2.1 dX9_between_22 ?_
    obtain ⟨x11, h12, e13, hF⟩ := bnd_out hF
    refine ab_callSi X S (c_X9_in l D cA sz e13) mi_X9_in lm_X9_343 lt_yX9_in (As := [.int p1, .int 0, .int (x10 - 1)]) (rest := []) rfl ⟨by decide, by decide⟩ ⟨(by decide), (by decide)⟩ hl.1 rfl (by simp [ab_cat, ab_cI, ab_cJ, ab_cD, ab_cF]) dX9_between_23 (fun H1 locs1 S => ?_)
    refine lv_if_eq (tgt := 49) X.1 X.2.1 dX9_between_26 (by decide) (fun c14 => ?_) (fun c14 => ?_)
    · have hF := ab_pos c14 hF
      exact w_X9_between_49 X hr  S (lv_sub hl [] rfl) hF
    · have hF := ab_neg c14 hF
      refine ab_aload_n X dX9_between_29 rfl (lv_at hl 0 rfl) ?_
      refine ab_getR X S hF fi_9_23 lf_X9_77 dX9_between_30 (fun x15 hF => ?_)
      refine lv_iload_n X.1 X.2.1 dX9_between_33 rfl (lv_at hl 1 rfl) ?_
      refine ab_aldZ X S hF dX9_between_34 (fun x16 hF => ?_)
      refine lv_if_eq (tgt := 49) X.1 X.2.1 dX9_between_35 (by decide) (fun c17 => ?_) (fun c17 => ?_)
      · have hF := ab_pos c17 hF
        exact w_X9_between_49 X hr  S (lv_sub hl [] rfl) hF
      · have hF := ab_neg c17 hF
        refine lv_iload X.1 X.2.1 dX9_between_38 (lv_at hl 4 rfl) ?_
        refine lv_iconst (v := 0) X.1 X.2.1 dX9_between_40 (by decide) ?_
        refine lv_bipush (v := 30) X.1 X.2.1 dX9_between_41 (by decide) ?_
        obtain ⟨x18, h19, e20, hF⟩ := bnd_out hF
        refine ab_callSi X S (c_X9_in l D cA sz e20) mi_X9_in lm_X9_343 lt_yX9_in (As := [.int p3, .int 0, .int 30]) (rest := []) rfl ⟨by decide, by decide⟩ ⟨(by decide), (by decide)⟩ hl.1 rfl (by simp [ab_cat, ab_cI, ab_cJ, ab_cD, ab_cF]) dX9_between_43 (fun H1 locs1 S => ?_)
        refine lv_if_ne (tgt := 53) X.1 X.2.1 dX9_between_46 (by decide) (fun c21 => ?_) (fun c21 => ?_)
        · have hF := ab_pos c21 hF
          refine lv_lload_n X.1 X.2.1 dX9_between_53 rfl (lv_at hl 3 rfl) ?_
          refine lv_iload X.1 X.2.1 dX9_between_54 (lv_at hl 4 rfl) ?_
          obtain ⟨x22, h23, e24, hF⟩ := bnd_out hF
          refine ab_callSd X S (c_X9_number l D cA sz e24) mi_X9_number lm_X9_354 lt_yX9_number (As := [.long p2, .int p3]) (rest := []) rfl ⟨by decide, by decide⟩ ⟨(by decide), (by decide)⟩ hl.1 rfl (by simp [ab_cat, ab_cI, ab_cJ, ab_cD, ab_cF]) dX9_between_56 (fun H1 locs1 S => ?_)
          refine lv_dstore (lv' := [(6, .double x22), (0, va_rf (some this)), (1, .int p0), (2, .int p1), (3, .long p2), (5, .int p3)]) X.1 X.2.1 dX9_between_59 hl (by decide) (by simp [ab_cat, ab_cI, ab_cJ, ab_cD, ab_cF]) (fun ls hl => ?_)
          refine lv_dload X.1 X.2.1 dX9_between_61 (lv_at hl 0 rfl) ?_
          refine lv_dconst0 X.1 X.2.1 dX9_between_63 ?_
          refine lv_dcmp X.1 X.2.1 dX9_between_64 ?_
          refine lv_if_lt (tgt := 75) X.1 X.2.1 dX9_between_65 (by decide) (fun c25 => ?_) (fun c25 => ?_)
          · have hF := ab_pos c25 hF
            exact w_X9_between_75 X hr  S (lv_sub hl [] rfl) hF
          · have hF := ab_neg c25 hF
            refine lv_dload X.1 X.2.1 dX9_between_68 (lv_at hl 0 rfl) ?_
            refine lv_dconst1 X.1 X.2.1 dX9_between_70 ?_
            refine lv_dcmp X.1 X.2.1 dX9_between_71 ?_
            refine lv_if_le (tgt := 81) X.1 X.2.1 dX9_between_72 (by decide) (fun c26 => ?_) (fun c26 => ?_)
            · have hF := ab_pos c26 hF
              refine ab_aload_n X dX9_between_81 rfl (lv_at hl 1 rfl) ?_
              refine lv_iload_n X.1 X.2.1 dX9_between_82 rfl (lv_at hl 2 rfl) ?_
              refine lv_iload_n X.1 X.2.1 dX9_between_83 rfl (lv_at hl 3 rfl) ?_
              refine lv_dload X.1 X.2.1 dX9_between_84 (lv_at hl 0 rfl) ?_
              obtain ⟨a30, e31, hF⟩ := bind_out hF
              obtain ⟨x27, h28, e29, hF⟩ := bnd_out hF
              refine ab_callVd X S e31 (c_X9_cubic l D cA sz e29) rfl (by decide) mi_X9_cubic lm_X9_330 li_yX9_cubic ls_yX9_cubic (As := [.int p0, .int p1, .double x22]) (rest := []) rfl ⟨by decide, by decide⟩ ⟨(by decide), (by decide)⟩ hl.1 rfl (by simp [ab_cat, ab_cI, ab_cJ, ab_cD, ab_cF]) dX9_between_86 (fun H1 locs1 S => ?_)
              obtain ⟨x32, h33, e34, hF⟩ := bnd_out hF
              refine ab_callSl X S (c_X9_bits l D cA sz e34) mi_X9_bits lm_X9_377 lt_yX9_bits (As := [.double x27]) (rest := []) rfl ⟨by decide, by decide⟩ ⟨(by decide), (by decide)⟩ hl.1 rfl (by simp [ab_cat, ab_cI, ab_cJ, ab_cD, ab_cF]) dX9_between_89 (fun H1 locs1 S => ?_)
              exact w_X9_between_92 X hr  S (lv_sub hl [] rfl) hF
            · have hF := ab_neg c26 hF
              exact w_X9_between_75 X hr  S (lv_sub hl [] rfl) hF
        · have hF := ab_neg (fun q => q c21) hF
          exact w_X9_between_49 X hr  S (lv_sub hl [] rfl) hF
def f_X9_fired_37   (h : Hp) : Option (Int64 × Hp) :=
  some ((9221120237041090560), h)
set_option maxHeartbeats 4000000 in
set_option maxRecDepth 100000 in
theorem w_X9_fired_37 {p : Program} {l : Launch} {e : Env} {s : State} {m : MethodId} {args : Array Value} {below : List Frame} {meth : Method} {c : Code} {D : va_G} {cA : Nat → ClassId} {sz : Nat} {rr : Int64} {hh : Hp}  (X : ab_X p s m args meth c cX9_fired 4 RX9 D cA sz) (hr : meth.sig.returnType = (some .long))  {H : Heap} {locs : List Loc} {ls : Array Slot}  {h : Hp} (S : ab_H D cA sz h s H locs) (hl : lv_has ls 4 []) (hF : f_X9_fired_37  h = some (rr, hh)) : W p l e (ab_rm 3 0 0) s m args below meth c H locs 0 0 (MQ below (ab_Q D cA sz (some (.long rr)) hh) args s 0 0 (fun q => sz ≤ q)) (F0 m 37 ls []) := by
  unfold f_X9_fired_37 at hF
  refine lv_ldc2 (v := (9221120237041090560)) X.1 X.2.1 X.2.2.2.1 (X.2.2.2.2.1 _ ll_X9_198) dX9_fired_37 ?_
  exact ab_lret X S hr hF dX9_fired_40
def f_X9_fired_74  (u0 : Int64) (h : Hp) : Option (Int64 × Hp) :=
  some (u0, h)
set_option maxHeartbeats 4000000 in
set_option maxRecDepth 100000 in
theorem w_X9_fired_74 {p : Program} {l : Launch} {e : Env} {s : State} {m : MethodId} {args : Array Value} {below : List Frame} {meth : Method} {c : Code} {D : va_G} {cA : Nat → ClassId} {sz : Nat} {rr : Int64} {hh : Hp}  (X : ab_X p s m args meth c cX9_fired 4 RX9 D cA sz) (hr : meth.sig.returnType = (some .long))  {H : Heap} {locs : List Loc} {ls : Array Slot} {u0 : Int64} {h : Hp} (S : ab_H D cA sz h s H locs) (hl : lv_has ls 4 []) (hF : f_X9_fired_74 u0 h = some (rr, hh)) : W p l e (ab_rm 3 0 0) s m args below meth c H locs 0 0 (MQ below (ab_Q D cA sz (some (.long rr)) hh) args s 0 0 (fun q => sz ≤ q)) (F0 m 74 ls [.long u0]) := by
  unfold f_X9_fired_74 at hF
  exact ab_lret X S hr hF dX9_fired_74
def f_X9_fired (this : Nat) (p0 : Int32) (p1 : Int32) (p2 : Int32) (h : Hp) : Option (Int64 × Hp) :=
  (ab_ck h (some this) (9, 0)).bind fun a4 =>
  bnd (f_X9_isRun a4 p0 h) fun x1 h2 =>
  if x1 = 0 then
    f_X9_fired_37 h2
  else
    if p1 < 0 then
      f_X9_fired_37 h2
    else
      (getR h2 (some this) 9 21).bind fun x8 =>
      (aldI h2 x8 11 p0).bind fun x9 =>
      if x9 ≤ p1 then
        f_X9_fired_37 h2
      else
        if 64 ≤ p1 then
          f_X9_fired_37 h2
        else
          bnd (f_X9_in p2 0 1 h2) fun x12 h13 =>
          if ¬ x12 = 0 then
            if ¬ p2 = 0 then
              (getR h13 (some this) 9 36).bind fun x17 =>
              (aldD h13 x17 ((64 * p0) + p1)).bind fun x18 =>
              bnd (f_X9_bits x18 h13) fun x19 h20 =>
              f_X9_fired_74 x19 h20
            else
              (getR h13 (some this) 9 35).bind fun x22 =>
              (aldI h13 x22 11 ((64 * p0) + p1)).bind fun x23 =>
              f_X9_fired_74 x23.toInt64 h13
          else
            f_X9_fired_37 h13
theorem mi_X9_fired : ab_MI yX9_fired cX9_fired 4 (some .long) 3 := ⟨lc_yX9_fired, lz_RX9, by decide, by decide, by decide +kernel⟩
set_option maxHeartbeats 4000000 in
set_option maxRecDepth 100000 in
theorem c_X9_fired (l : Launch) (D : va_G) (cA : Nat → ClassId) (sz : Nat) {this : Nat} {p0 : Int32} {p1 : Int32} {p2 : Int32} {h hh : Hp} {rr : Int64} (hF : f_X9_fired this p0 p1 p2 h = some (rr, hh)) : ab_C l D cA sz yX9_fired cX9_fired 4 (some .long) 3 0 0 [.ref this, .int p0, .int p1, .int p2] h (some (.long rr)) hh := by
  refine Met.ofW (cc := cX9_fired) (maxL := 4) (ret := (some .long)) (by decide) rfl ?_
  intro p e s m args below meth c s₁ B hml hv
  obtain ⟨rfl, hT, hR⟩ := hv
  have X : ab_X p s m _ meth c cX9_fired 4 RX9 D cA sz := (ab_enter B hml hT hR).1
  have S := (ab_enter B hml hT hR).2
  have hr := B.returns
  obtain ⟨ls, hls, hl⟩ := ab_entry m [.ref this, .int p0, .int p1, .int p2] 4 (lv := [(0, .ref this), (1, .int p0), (2, .int p1), (3, .int p2)]) (by simp [lg_sl, ab_cat, ab_cI, ab_cJ, ab_cD, ab_cF, ab_cA]) (by simp [lv_args, ab_cat, ab_cI, ab_cJ, ab_cD, ab_cF, ab_cA])
  rw [hls]
  have hl : lv_has ls 4 [(0, va_rf (some this)), (1, .int p0), (2, .int p1), (3, .int p2)] := hl
  unfold f_X9_fired at hF
  show W p l e (ab_rm 3 0 0) s m _ below meth c s.heap [] 0 0 _ _
  refine ab_aload_n X dX9_fired_0 rfl (lv_at hl 0 rfl) ?_
  refine lv_iload_n X.1 X.2.1 dX9_fired_1 rfl (lv_at hl 1 rfl) ?_
  obtain ⟨a4, e5, hF⟩ := bind_out hF
  obtain ⟨x1, h2, e3, hF⟩ := bnd_out hF
  refine ab_callVi X S e5 (c_X9_isRun l D cA sz e3) rfl (by decide) mi_X9_isRun lm_X9_366 li_yX9_isRun ls_yX9_isRun (As := [.int p0]) (rest := []) rfl ⟨by decide, by decide⟩ ⟨(by decide), (by decide)⟩ hl.1 rfl (by simp [ab_cat, ab_cI, ab_cJ, ab_cD, ab_cF]) dX9_fired_2 (fun H1 locs1 S => ?_)
  refine lv_if_eq (tgt := 37) X.1 X.2.1 dX9_fired_5 (by decide) (fun c6 => ?_) (fun c6 => ?_)
  · have hF := ab_pos c6 hF
    exact w_X9_fired_37 X hr  S (lv_sub hl [] rfl) hF
  · have hF := ab_neg c6 hF
    refine lv_iload_n X.1 X.2.1 dX9_fired_8 rfl (lv_at hl 2 rfl) ?_
    refine lv_if_lt (tgt := 37) X.1 X.2.1 dX9_fired_9 (by decide) (fun c7 => ?_) (fun c7 => ?_)
    · have hF := ab_pos c7 hF
      exact w_X9_fired_37 X hr  S (lv_sub hl [] rfl) hF
    · have hF := ab_neg c7 hF
      refine lv_iload_n X.1 X.2.1 dX9_fired_12 rfl (lv_at hl 2 rfl) ?_
      refine ab_aload_n X dX9_fired_13 rfl (lv_at hl 0 rfl) ?_
      refine ab_getR X S hF fi_9_21 lf_X9_70 dX9_fired_14 (fun x8 hF => ?_)
      refine lv_iload_n X.1 X.2.1 dX9_fired_17 rfl (lv_at hl 1 rfl) ?_
      refine ab_aldI X S hF dX9_fired_18 (fun x9 hF => ?_)
      refine lv_icmp_ge (tgt := 37) X.1 X.2.1 dX9_fired_19 (by decide) (fun c10 => ?_) (fun c10 => ?_)
      · have hF := ab_pos c10 hF
        exact w_X9_fired_37 X hr  S (lv_sub hl [] rfl) hF
      · have hF := ab_neg c10 hF
        refine lv_iload_n X.1 X.2.1 dX9_fired_22 rfl (lv_at hl 2 rfl) ?_
        refine lv_bipush (v := 64) X.1 X.2.1 dX9_fired_23 (by decide) ?_
        refine lv_icmp_ge (tgt := 37) X.1 X.2.1 dX9_fired_25 (by decide) (fun c11 => ?_) (fun c11 => ?_)
        · have hF := ab_pos c11 hF
          exact w_X9_fired_37 X hr  S (lv_sub hl [] rfl) hF
        · have hF := ab_neg c11 hF
          refine lv_iload_n X.1 X.2.1 dX9_fired_28 rfl (lv_at hl 3 rfl) ?_
          refine lv_iconst (v := 0) X.1 X.2.1 dX9_fired_29 (by decide) ?_
          refine lv_iconst (v := 1) X.1 X.2.1 dX9_fired_30 (by decide) ?_
          obtain ⟨x12, h13, e14, hF⟩ := bnd_out hF
          refine ab_callSi X S (c_X9_in l D cA sz e14) mi_X9_in lm_X9_343 lt_yX9_in (As := [.int p2, .int 0, .int 1]) (rest := []) rfl ⟨by decide, by decide⟩ ⟨(by decide), (by decide)⟩ hl.1 rfl (by simp [ab_cat, ab_cI, ab_cJ, ab_cD, ab_cF]) dX9_fired_31 (fun H1 locs1 S => ?_)
          refine lv_if_ne (tgt := 41) X.1 X.2.1 dX9_fired_34 (by decide) (fun c15 => ?_) (fun c15 => ?_)
          · have hF := ab_pos c15 hF
            refine lv_iload_n X.1 X.2.1 dX9_fired_41 rfl (lv_at hl 3 rfl) ?_
            refine lv_if_ne (tgt := 60) X.1 X.2.1 dX9_fired_42 (by decide) (fun c16 => ?_) (fun c16 => ?_)
            · have hF := ab_pos c16 hF
              refine ab_aload_n X dX9_fired_60 rfl (lv_at hl 0 rfl) ?_
              refine ab_getR X S hF fi_9_36 lf_X9_116 dX9_fired_61 (fun x17 hF => ?_)
              refine lv_bipush (v := 64) X.1 X.2.1 dX9_fired_64 (by decide) ?_
              refine lv_iload_n X.1 X.2.1 dX9_fired_66 rfl (lv_at hl 1 rfl) ?_
              refine lv_imul X.1 X.2.1 dX9_fired_67 ?_
              refine lv_iload_n X.1 X.2.1 dX9_fired_68 rfl (lv_at hl 2 rfl) ?_
              refine lv_iadd X.1 X.2.1 dX9_fired_69 ?_
              refine ab_aldD X S hF dX9_fired_70 (fun x18 hF => ?_)
              obtain ⟨x19, h20, e21, hF⟩ := bnd_out hF
              refine ab_callSl X S (c_X9_bits l D cA sz e21) mi_X9_bits lm_X9_377 lt_yX9_bits (As := [.double x18]) (rest := []) rfl ⟨by decide, by decide⟩ ⟨(by decide), (by decide)⟩ hl.1 rfl (by simp [ab_cat, ab_cI, ab_cJ, ab_cD, ab_cF]) dX9_fired_71 (fun H1 locs1 S => ?_)
              exact w_X9_fired_74 X hr  S (lv_sub hl [] rfl) hF
            · have hF := ab_neg (fun q => q c16) hF
              refine ab_aload_n X dX9_fired_45 rfl (lv_at hl 0 rfl) ?_
              refine ab_getR X S hF fi_9_35 lf_X9_113 dX9_fired_46 (fun x22 hF => ?_)
              refine lv_bipush (v := 64) X.1 X.2.1 dX9_fired_49 (by decide) ?_
              refine lv_iload_n X.1 X.2.1 dX9_fired_51 rfl (lv_at hl 1 rfl) ?_
              refine lv_imul X.1 X.2.1 dX9_fired_52 ?_
              refine lv_iload_n X.1 X.2.1 dX9_fired_53 rfl (lv_at hl 2 rfl) ?_
              refine lv_iadd X.1 X.2.1 dX9_fired_54 ?_
              refine ab_aldI X S hF dX9_fired_55 (fun x23 hF => ?_)
              refine lv_i2l (v := x23.toInt64) X.1 X.2.1 dX9_fired_56 rfl ?_
              refine lv_goto (tgt := 74) X.1 X.2.1 dX9_fired_57 (by decide) ?_
              exact w_X9_fired_74 X hr  S (lv_sub hl [] rfl) hF
          · have hF := ab_neg (fun q => q c15) hF
            exact w_X9_fired_37 X hr  S (lv_sub hl [] rfl) hF
def f_X9_halves_38   (h : Hp) : Option (Int64 × Hp) :=
  some ((9221120237041090560), h)
set_option maxHeartbeats 4000000 in
set_option maxRecDepth 100000 in
theorem w_X9_halves_38 {p : Program} {l : Launch} {e : Env} {s : State} {m : MethodId} {args : Array Value} {below : List Frame} {meth : Method} {c : Code} {D : va_G} {cA : Nat → ClassId} {sz : Nat} {rr : Int64} {hh : Hp}  (X : ab_X p s m args meth c cX9_halves 8 RX9 D cA sz) (hr : meth.sig.returnType = (some .long))  {H : Heap} {locs : List Loc} {ls : Array Slot}  {h : Hp} (S : ab_H D cA sz h s H locs) (hl : lv_has ls 8 []) (hF : f_X9_halves_38  h = some (rr, hh)) : W p l e (ab_rm 8 0 0) s m args below meth c H locs 0 0 (MQ below (ab_Q D cA sz (some (.long rr)) hh) args s 0 0 (fun q => sz ≤ q)) (F0 m 38 ls []) := by
  unfold f_X9_halves_38 at hF
  refine lv_ldc2 (v := (9221120237041090560)) X.1 X.2.1 X.2.2.2.1 (X.2.2.2.2.1 _ ll_X9_198) dX9_halves_38 ?_
  exact ab_lret X S hr hF dX9_halves_41
def f_X9_halves_189  : Nat → Option Nat → Int32 → Int32 → Int32 → Int32 → UInt64 → Int32 → Hp → Option (Int64 × Hp)
  | 0, _, _, _, _, _, _, _, _ => none
  | n + 1, v0, v1, v2, v3, v4, v5, v7, h => if v4 ≤ v7 then
      (getR h v0 9 16).bind fun x2 =>
      (aldI h x2 11 v1).bind fun x3 =>
      (getR h v0 9 25).bind fun x4 =>
      (aldD h x4 v1).bind fun x5 =>
      (fop (FP.ddiv v5 4611686018427387904)).bind fun x6 =>
      (fop (FP.dadd x5 x6)).bind fun x7 =>
      (fop (FP.ddiv v5 4611686018427387904)).bind fun x8 =>
      (ab_ck h v0 (9, 0)).bind fun a12 =>
      bnd (f_X9_made a12 v3 x3 x7 x8 h) fun x9 h10 =>
      if x9 = 0 then
        (getR h10 v0 9 49).bind fun x15 =>
        (aldD h10 x15 v2).bind fun x16 =>
        (getR h10 v0 9 57).bind fun x17 =>
        (aldD h10 x17 v2).bind fun x18 =>
        (fop (FP.dsub x16 x18)).bind fun x19 =>
        bnd (f_X9_bits x19 h10) fun x20 h21 =>
        some (x20, h21)
      else
        some ((9221120237041090560), h10)
    else
      (getR h v0 9 47).bind fun x23 =>
      (getR h v0 9 49).bind fun x24 =>
      (aldD h x24 v7).bind fun x25 =>
      (astD h x23 v7 x25).bind fun h26 =>
      f_X9_halves_189 n v0 v1 v2 v3 v4 v5 (v7 + 1) h26
set_option maxHeartbeats 4000000 in
set_option maxRecDepth 100000 in
theorem w_X9_halves_189 {p : Program} {l : Launch} {e : Env} {s : State} {m : MethodId} {args : Array Value} {below : List Frame} {meth : Method} {c : Code} {D : va_G} {cA : Nat → ClassId} {sz : Nat} {rr : Int64} {hh : Hp}  (X : ab_X p s m args meth c cX9_halves 8 RX9 D cA sz) (hr : meth.sig.returnType = (some .long))  (n : Nat) : ∀ (v0 : Option Nat) (v1 : Int32) (v2 : Int32) (v3 : Int32) (v4 : Int32) (v5 : UInt64) (v7 : Int32) (h : Hp) (H : Heap) (locs : List Loc) (ls : Array Slot), ab_H D cA sz h s H locs → lv_has ls 8 [(0, va_rf v0), (1, .int v1), (2, .int v2), (3, .int v3), (4, .int v4), (5, .double v5), (7, .int v7)] → f_X9_halves_189 n v0 v1 v2 v3 v4 v5 v7 h = some (rr, hh) → W p l e (ab_rm 8 0 0) s m args below meth c H locs 0 0 (MQ below (ab_Q D cA sz (some (.long rr)) hh) args s 0 0 (fun q => sz ≤ q)) (F0 m 189 ls []) := by
  induction n with
  | zero => intro v0 v1 v2 v3 v4 v5 v7 h H locs ls S hl hF; cases hF
  | succ n ih =>
    intro v0 v1 v2 v3 v4 v5 v7 h H locs ls S hl hF
    rw [f_X9_halves_189] at hF
    refine lv_iload X.1 X.2.1 dX9_halves_189 (lv_at hl 6 rfl) ?_
    refine lv_iload X.1 X.2.1 dX9_halves_191 (lv_at hl 4 rfl) ?_
    refine lv_icmp_ge (tgt := 216) X.1 X.2.1 dX9_halves_193 (by decide) (fun c1 => ?_) (fun c1 => ?_)
    · have hF := ab_pos c1 hF
      refine ab_aload_n X dX9_halves_216 rfl (lv_at hl 0 rfl) ?_
      refine lv_iload_n X.1 X.2.1 dX9_halves_217 rfl (lv_at hl 3 rfl) ?_
      refine ab_aload_n X dX9_halves_218 rfl (lv_at hl 0 rfl) ?_
      refine ab_getR X S hF fi_9_16 lf_X9_55 dX9_halves_219 (fun x2 hF => ?_)
      refine lv_iload_n X.1 X.2.1 dX9_halves_222 rfl (lv_at hl 1 rfl) ?_
      refine ab_aldI X S hF dX9_halves_223 (fun x3 hF => ?_)
      refine ab_aload_n X dX9_halves_224 rfl (lv_at hl 0 rfl) ?_
      refine ab_getR X S hF fi_9_25 lf_X9_83 dX9_halves_225 (fun x4 hF => ?_)
      refine lv_iload_n X.1 X.2.1 dX9_halves_228 rfl (lv_at hl 1 rfl) ?_
      refine ab_aldD X S hF dX9_halves_229 (fun x5 hF => ?_)
      refine lv_dload X.1 X.2.1 dX9_halves_230 (lv_at hl 5 rfl) ?_
      refine lv_ldc2d (v := 4611686018427387904) X.1 X.2.1 X.2.2.2.1 (X.2.2.2.2.1 _ ld_X9_285) dX9_halves_232 ?_
      obtain ⟨x6, ev, ne, hF⟩ := ab_fopx hF
      refine lv_ddiv X.1 X.2.1 dX9_halves_235 ne ?_
      rw [ev]
      obtain ⟨x7, ev, ne, hF⟩ := ab_fopx hF
      refine lv_dadd X.1 X.2.1 dX9_halves_236 ne ?_
      rw [ev]
      refine lv_dload X.1 X.2.1 dX9_halves_237 (lv_at hl 5 rfl) ?_
      refine lv_ldc2d (v := 4611686018427387904) X.1 X.2.1 X.2.2.2.1 (X.2.2.2.2.1 _ ld_X9_285) dX9_halves_239 ?_
      obtain ⟨x8, ev, ne, hF⟩ := ab_fopx hF
      refine lv_ddiv X.1 X.2.1 dX9_halves_242 ne ?_
      rw [ev]
      obtain ⟨a12, e13, hF⟩ := bind_out hF
      obtain ⟨x9, h10, e11, hF⟩ := bnd_out hF
      refine ab_callVi X S e13 (c_X9_made l D cA sz e11) rfl (by decide) mi_X9_made lm_X9_301 li_yX9_made ls_yX9_made (As := [.int v3, .int x3, .double x7, .double x8]) (rest := []) rfl ⟨by decide, by decide⟩ ⟨(by decide), (by decide)⟩ hl.1 rfl (by simp [ab_cat, ab_cI, ab_cJ, ab_cD, ab_cF]) dX9_halves_243 (fun H1 locs1 S => ?_)
      refine lv_if_eq (tgt := 253) X.1 X.2.1 dX9_halves_246 (by decide) (fun c14 => ?_) (fun c14 => ?_)
      · have hF := ab_pos c14 hF
        refine ab_aload_n X dX9_halves_253 rfl (lv_at hl 0 rfl) ?_
        refine ab_getR X S hF fi_9_49 lf_X9_152 dX9_halves_254 (fun x15 hF => ?_)
        refine lv_iload_n X.1 X.2.1 dX9_halves_257 rfl (lv_at hl 2 rfl) ?_
        refine ab_aldD X S hF dX9_halves_258 (fun x16 hF => ?_)
        refine ab_aload_n X dX9_halves_259 rfl (lv_at hl 0 rfl) ?_
        refine ab_getR X S hF fi_9_57 lf_X9_176 dX9_halves_260 (fun x17 hF => ?_)
        refine lv_iload_n X.1 X.2.1 dX9_halves_263 rfl (lv_at hl 2 rfl) ?_
        refine ab_aldD X S hF dX9_halves_264 (fun x18 hF => ?_)
        obtain ⟨x19, ev, ne, hF⟩ := ab_fopx hF
        refine lv_dsub X.1 X.2.1 dX9_halves_265 ne ?_
        rw [ev]
        obtain ⟨x20, h21, e22, hF⟩ := bnd_out hF
        refine ab_callSl X S (c_X9_bits l D cA sz e22) mi_X9_bits lm_X9_377 lt_yX9_bits (As := [.double x19]) (rest := []) rfl ⟨by decide, by decide⟩ ⟨(by decide), (by decide)⟩ hl.1 rfl (by simp [ab_cat, ab_cI, ab_cJ, ab_cD, ab_cF]) dX9_halves_266 (fun H1 locs1 S => ?_)
        exact ab_lret X S hr hF dX9_halves_269
      · have hF := ab_neg c14 hF
        refine lv_ldc2 (v := (9221120237041090560)) X.1 X.2.1 X.2.2.2.1 (X.2.2.2.2.1 _ ll_X9_198) dX9_halves_249 ?_
        exact ab_lret X S hr hF dX9_halves_252
    · have hF := ab_neg c1 hF
      refine ab_aload_n X dX9_halves_196 rfl (lv_at hl 0 rfl) ?_
      refine ab_getR X S hF fi_9_47 lf_X9_146 dX9_halves_197 (fun x23 hF => ?_)
      refine lv_iload X.1 X.2.1 dX9_halves_200 (lv_at hl 6 rfl) ?_
      refine ab_aload_n X dX9_halves_202 rfl (lv_at hl 0 rfl) ?_
      refine ab_getR X S hF fi_9_49 lf_X9_152 dX9_halves_203 (fun x24 hF => ?_)
      refine lv_iload X.1 X.2.1 dX9_halves_206 (lv_at hl 6 rfl) ?_
      refine ab_aldD X S hF dX9_halves_208 (fun x25 hF => ?_)
      refine ab_astD X S hF dX9_halves_209 (fun h26 H1 locs1 hF S => ?_)
      refine lv_iinc (v := v7 + 1) (lv' := [(7, .int (v7 + 1)), (0, va_rf v0), (1, .int v1), (2, .int v2), (3, .int v3), (4, .int v4), (5, .double v5)]) X.1 X.2.1 dX9_halves_210 hl (k := 6) rfl (by rfl) (by decide) (by simp [ab_cat, ab_cI, ab_cJ, ab_cD, ab_cF]) (fun ls hl => ?_)
      refine lv_goto (tgt := 189) X.1 X.2.1 dX9_halves_213 (by decide) ?_
      exact ih _ _ _ _ _ _ _ _ _ _ _ S (lv_sub hl [1, 2, 3, 4, 5, 6, 0] rfl) hF
def f_X9_halves_129  : Nat → Option Nat → Int32 → Int32 → Int32 → Int32 → UInt64 → Int32 → Hp → Option (Int64 × Hp)
  | 0, _, _, _, _, _, _, _, _ => none
  | n + 1, v0, v1, v2, v3, v4, v5, v7, h => if v4 ≤ v7 then
      (getR h v0 9 16).bind fun x2 =>
      (aldI h x2 11 v1).bind fun x3 =>
      (getR h v0 9 25).bind fun x4 =>
      (aldD h x4 v1).bind fun x5 =>
      (fop (FP.ddiv v5 4611686018427387904)).bind fun x6 =>
      (ab_ck h v0 (9, 0)).bind fun a10 =>
      bnd (f_X9_made a10 v3 x3 x5 x6 h) fun x7 h8 =>
      if x7 = 0 then
        f_X9_halves_189 fuelN v0 v1 v2 v3 v4 v5 0 h8
      else
        some ((9221120237041090560), h8)
    else
      (getR h v0 9 57).bind fun x13 =>
      (getR h v0 9 49).bind fun x14 =>
      (aldD h x14 v7).bind fun x15 =>
      (astD h x13 v7 x15).bind fun h16 =>
      f_X9_halves_129 n v0 v1 v2 v3 v4 v5 (v7 + 1) h16
set_option maxHeartbeats 4000000 in
set_option maxRecDepth 100000 in
theorem w_X9_halves_129 {p : Program} {l : Launch} {e : Env} {s : State} {m : MethodId} {args : Array Value} {below : List Frame} {meth : Method} {c : Code} {D : va_G} {cA : Nat → ClassId} {sz : Nat} {rr : Int64} {hh : Hp}  (X : ab_X p s m args meth c cX9_halves 8 RX9 D cA sz) (hr : meth.sig.returnType = (some .long))  (n : Nat) : ∀ (v0 : Option Nat) (v1 : Int32) (v2 : Int32) (v3 : Int32) (v4 : Int32) (v5 : UInt64) (v7 : Int32) (h : Hp) (H : Heap) (locs : List Loc) (ls : Array Slot), ab_H D cA sz h s H locs → lv_has ls 8 [(0, va_rf v0), (1, .int v1), (2, .int v2), (3, .int v3), (4, .int v4), (5, .double v5), (7, .int v7)] → f_X9_halves_129 n v0 v1 v2 v3 v4 v5 v7 h = some (rr, hh) → W p l e (ab_rm 8 0 0) s m args below meth c H locs 0 0 (MQ below (ab_Q D cA sz (some (.long rr)) hh) args s 0 0 (fun q => sz ≤ q)) (F0 m 129 ls []) := by
  induction n with
  | zero => intro v0 v1 v2 v3 v4 v5 v7 h H locs ls S hl hF; cases hF
  | succ n ih =>
    intro v0 v1 v2 v3 v4 v5 v7 h H locs ls S hl hF
    rw [f_X9_halves_129] at hF
    refine lv_iload X.1 X.2.1 dX9_halves_129 (lv_at hl 6 rfl) ?_
    refine lv_iload X.1 X.2.1 dX9_halves_131 (lv_at hl 4 rfl) ?_
    refine lv_icmp_ge (tgt := 156) X.1 X.2.1 dX9_halves_133 (by decide) (fun c1 => ?_) (fun c1 => ?_)
    · have hF := ab_pos c1 hF
      refine ab_aload_n X dX9_halves_156 rfl (lv_at hl 0 rfl) ?_
      refine lv_iload_n X.1 X.2.1 dX9_halves_157 rfl (lv_at hl 3 rfl) ?_
      refine ab_aload_n X dX9_halves_158 rfl (lv_at hl 0 rfl) ?_
      refine ab_getR X S hF fi_9_16 lf_X9_55 dX9_halves_159 (fun x2 hF => ?_)
      refine lv_iload_n X.1 X.2.1 dX9_halves_162 rfl (lv_at hl 1 rfl) ?_
      refine ab_aldI X S hF dX9_halves_163 (fun x3 hF => ?_)
      refine ab_aload_n X dX9_halves_164 rfl (lv_at hl 0 rfl) ?_
      refine ab_getR X S hF fi_9_25 lf_X9_83 dX9_halves_165 (fun x4 hF => ?_)
      refine lv_iload_n X.1 X.2.1 dX9_halves_168 rfl (lv_at hl 1 rfl) ?_
      refine ab_aldD X S hF dX9_halves_169 (fun x5 hF => ?_)
      refine lv_dload X.1 X.2.1 dX9_halves_170 (lv_at hl 5 rfl) ?_
      refine lv_ldc2d (v := 4611686018427387904) X.1 X.2.1 X.2.2.2.1 (X.2.2.2.2.1 _ ld_X9_285) dX9_halves_172 ?_
      obtain ⟨x6, ev, ne, hF⟩ := ab_fopx hF
      refine lv_ddiv X.1 X.2.1 dX9_halves_175 ne ?_
      rw [ev]
      obtain ⟨a10, e11, hF⟩ := bind_out hF
      obtain ⟨x7, h8, e9, hF⟩ := bnd_out hF
      refine ab_callVi X S e11 (c_X9_made l D cA sz e9) rfl (by decide) mi_X9_made lm_X9_301 li_yX9_made ls_yX9_made (As := [.int v3, .int x3, .double x5, .double x6]) (rest := []) rfl ⟨by decide, by decide⟩ ⟨(by decide), (by decide)⟩ hl.1 rfl (by simp [ab_cat, ab_cI, ab_cJ, ab_cD, ab_cF]) dX9_halves_176 (fun H1 locs1 S => ?_)
      refine lv_if_eq (tgt := 186) X.1 X.2.1 dX9_halves_179 (by decide) (fun c12 => ?_) (fun c12 => ?_)
      · have hF := ab_pos c12 hF
        refine lv_iconst (v := 0) X.1 X.2.1 dX9_halves_186 (by decide) ?_
        refine lv_istore (lv' := [(7, .int 0), (0, va_rf v0), (1, .int v1), (2, .int v2), (3, .int v3), (4, .int v4), (5, .double v5)]) X.1 X.2.1 dX9_halves_187 hl (by decide) (by simp [ab_cat, ab_cI, ab_cJ, ab_cD, ab_cF]) (fun ls hl => ?_)
        exact w_X9_halves_189 X hr  fuelN _ _ _ _ _ _ _ _ _ _ _ S (lv_sub hl [1, 2, 3, 4, 5, 6, 0] rfl) hF
      · have hF := ab_neg c12 hF
        refine lv_ldc2 (v := (9221120237041090560)) X.1 X.2.1 X.2.2.2.1 (X.2.2.2.2.1 _ ll_X9_198) dX9_halves_182 ?_
        exact ab_lret X S hr hF dX9_halves_185
    · have hF := ab_neg c1 hF
      refine ab_aload_n X dX9_halves_136 rfl (lv_at hl 0 rfl) ?_
      refine ab_getR X S hF fi_9_57 lf_X9_176 dX9_halves_137 (fun x13 hF => ?_)
      refine lv_iload X.1 X.2.1 dX9_halves_140 (lv_at hl 6 rfl) ?_
      refine ab_aload_n X dX9_halves_142 rfl (lv_at hl 0 rfl) ?_
      refine ab_getR X S hF fi_9_49 lf_X9_152 dX9_halves_143 (fun x14 hF => ?_)
      refine lv_iload X.1 X.2.1 dX9_halves_146 (lv_at hl 6 rfl) ?_
      refine ab_aldD X S hF dX9_halves_148 (fun x15 hF => ?_)
      refine ab_astD X S hF dX9_halves_149 (fun h16 H1 locs1 hF S => ?_)
      refine lv_iinc (v := v7 + 1) (lv' := [(7, .int (v7 + 1)), (0, va_rf v0), (1, .int v1), (2, .int v2), (3, .int v3), (4, .int v4), (5, .double v5)]) X.1 X.2.1 dX9_halves_150 hl (k := 6) rfl (by rfl) (by decide) (by simp [ab_cat, ab_cI, ab_cJ, ab_cD, ab_cF]) (fun ls hl => ?_)
      refine lv_goto (tgt := 129) X.1 X.2.1 dX9_halves_153 (by decide) ?_
      exact ih _ _ _ _ _ _ _ _ _ _ _ S (lv_sub hl [1, 2, 3, 4, 5, 6, 0] rfl) hF
def f_X9_halves_68  : Nat → Option Nat → Int32 → Int32 → Int32 → Int32 → UInt64 → Int32 → Hp → Option (Int64 × Hp)
  | 0, _, _, _, _, _, _, _, _ => none
  | n + 1, v0, v1, v2, v3, v4, v5, v7, h => if v4 ≤ v7 then
      (getR h v0 9 16).bind fun x2 =>
      (aldI h x2 11 v1).bind fun x3 =>
      (getR h v0 9 25).bind fun x4 =>
      (aldD h x4 v1).bind fun x5 =>
      (ab_ck h v0 (9, 0)).bind fun a9 =>
      bnd (f_X9_made a9 v3 x3 x5 v5 h) fun x6 h7 =>
      if x6 = 0 then
        f_X9_halves_129 fuelN v0 v1 v2 v3 v4 v5 0 h7
      else
        some ((9221120237041090560), h7)
    else
      (getR h v0 9 47).bind fun x12 =>
      (getR h v0 9 30).bind fun x13 =>
      (aldD h x13 ((6 * v1) + v7)).bind fun x14 =>
      (astD h x12 v7 x14).bind fun h15 =>
      f_X9_halves_68 n v0 v1 v2 v3 v4 v5 (v7 + 1) h15
set_option maxHeartbeats 4000000 in
set_option maxRecDepth 100000 in
theorem w_X9_halves_68 {p : Program} {l : Launch} {e : Env} {s : State} {m : MethodId} {args : Array Value} {below : List Frame} {meth : Method} {c : Code} {D : va_G} {cA : Nat → ClassId} {sz : Nat} {rr : Int64} {hh : Hp}  (X : ab_X p s m args meth c cX9_halves 8 RX9 D cA sz) (hr : meth.sig.returnType = (some .long))  (n : Nat) : ∀ (v0 : Option Nat) (v1 : Int32) (v2 : Int32) (v3 : Int32) (v4 : Int32) (v5 : UInt64) (v7 : Int32) (h : Hp) (H : Heap) (locs : List Loc) (ls : Array Slot), ab_H D cA sz h s H locs → lv_has ls 8 [(0, va_rf v0), (1, .int v1), (2, .int v2), (3, .int v3), (4, .int v4), (5, .double v5), (7, .int v7)] → f_X9_halves_68 n v0 v1 v2 v3 v4 v5 v7 h = some (rr, hh) → W p l e (ab_rm 8 0 0) s m args below meth c H locs 0 0 (MQ below (ab_Q D cA sz (some (.long rr)) hh) args s 0 0 (fun q => sz ≤ q)) (F0 m 68 ls []) := by
  induction n with
  | zero => intro v0 v1 v2 v3 v4 v5 v7 h H locs ls S hl hF; cases hF
  | succ n ih =>
    intro v0 v1 v2 v3 v4 v5 v7 h H locs ls S hl hF
    rw [f_X9_halves_68] at hF
    refine lv_iload X.1 X.2.1 dX9_halves_68 (lv_at hl 6 rfl) ?_
    refine lv_iload X.1 X.2.1 dX9_halves_70 (lv_at hl 4 rfl) ?_
    refine lv_icmp_ge (tgt := 100) X.1 X.2.1 dX9_halves_72 (by decide) (fun c1 => ?_) (fun c1 => ?_)
    · have hF := ab_pos c1 hF
      refine ab_aload_n X dX9_halves_100 rfl (lv_at hl 0 rfl) ?_
      refine lv_iload_n X.1 X.2.1 dX9_halves_101 rfl (lv_at hl 3 rfl) ?_
      refine ab_aload_n X dX9_halves_102 rfl (lv_at hl 0 rfl) ?_
      refine ab_getR X S hF fi_9_16 lf_X9_55 dX9_halves_103 (fun x2 hF => ?_)
      refine lv_iload_n X.1 X.2.1 dX9_halves_106 rfl (lv_at hl 1 rfl) ?_
      refine ab_aldI X S hF dX9_halves_107 (fun x3 hF => ?_)
      refine ab_aload_n X dX9_halves_108 rfl (lv_at hl 0 rfl) ?_
      refine ab_getR X S hF fi_9_25 lf_X9_83 dX9_halves_109 (fun x4 hF => ?_)
      refine lv_iload_n X.1 X.2.1 dX9_halves_112 rfl (lv_at hl 1 rfl) ?_
      refine ab_aldD X S hF dX9_halves_113 (fun x5 hF => ?_)
      refine lv_dload X.1 X.2.1 dX9_halves_114 (lv_at hl 5 rfl) ?_
      obtain ⟨a9, e10, hF⟩ := bind_out hF
      obtain ⟨x6, h7, e8, hF⟩ := bnd_out hF
      refine ab_callVi X S e10 (c_X9_made l D cA sz e8) rfl (by decide) mi_X9_made lm_X9_301 li_yX9_made ls_yX9_made (As := [.int v3, .int x3, .double x5, .double v5]) (rest := []) rfl ⟨by decide, by decide⟩ ⟨(by decide), (by decide)⟩ hl.1 rfl (by simp [ab_cat, ab_cI, ab_cJ, ab_cD, ab_cF]) dX9_halves_116 (fun H1 locs1 S => ?_)
      refine lv_if_eq (tgt := 126) X.1 X.2.1 dX9_halves_119 (by decide) (fun c11 => ?_) (fun c11 => ?_)
      · have hF := ab_pos c11 hF
        refine lv_iconst (v := 0) X.1 X.2.1 dX9_halves_126 (by decide) ?_
        refine lv_istore (lv' := [(7, .int 0), (0, va_rf v0), (1, .int v1), (2, .int v2), (3, .int v3), (4, .int v4), (5, .double v5)]) X.1 X.2.1 dX9_halves_127 hl (by decide) (by simp [ab_cat, ab_cI, ab_cJ, ab_cD, ab_cF]) (fun ls hl => ?_)
        exact w_X9_halves_129 X hr  fuelN _ _ _ _ _ _ _ _ _ _ _ S (lv_sub hl [1, 2, 3, 4, 5, 6, 0] rfl) hF
      · have hF := ab_neg c11 hF
        refine lv_ldc2 (v := (9221120237041090560)) X.1 X.2.1 X.2.2.2.1 (X.2.2.2.2.1 _ ll_X9_198) dX9_halves_122 ?_
        exact ab_lret X S hr hF dX9_halves_125
    · have hF := ab_neg c1 hF
      refine ab_aload_n X dX9_halves_75 rfl (lv_at hl 0 rfl) ?_
      refine ab_getR X S hF fi_9_47 lf_X9_146 dX9_halves_76 (fun x12 hF => ?_)
      refine lv_iload X.1 X.2.1 dX9_halves_79 (lv_at hl 6 rfl) ?_
      refine ab_aload_n X dX9_halves_81 rfl (lv_at hl 0 rfl) ?_
      refine ab_getR X S hF fi_9_30 lf_X9_98 dX9_halves_82 (fun x13 hF => ?_)
      refine lv_bipush (v := 6) X.1 X.2.1 dX9_halves_85 (by decide) ?_
      refine lv_iload_n X.1 X.2.1 dX9_halves_87 rfl (lv_at hl 1 rfl) ?_
      refine lv_imul X.1 X.2.1 dX9_halves_88 ?_
      refine lv_iload X.1 X.2.1 dX9_halves_89 (lv_at hl 6 rfl) ?_
      refine lv_iadd X.1 X.2.1 dX9_halves_91 ?_
      refine ab_aldD X S hF dX9_halves_92 (fun x14 hF => ?_)
      refine ab_astD X S hF dX9_halves_93 (fun h15 H1 locs1 hF S => ?_)
      refine lv_iinc (v := v7 + 1) (lv' := [(7, .int (v7 + 1)), (0, va_rf v0), (1, .int v1), (2, .int v2), (3, .int v3), (4, .int v4), (5, .double v5)]) X.1 X.2.1 dX9_halves_94 hl (k := 6) rfl (by rfl) (by decide) (by simp [ab_cat, ab_cI, ab_cJ, ab_cD, ab_cF]) (fun ls hl => ?_)
      refine lv_goto (tgt := 68) X.1 X.2.1 dX9_halves_97 (by decide) ?_
      exact ih _ _ _ _ _ _ _ _ _ _ _ S (lv_sub hl [1, 2, 3, 4, 5, 6, 0] rfl) hF
def f_X9_halves (this : Nat) (p0 : Int32) (p1 : Int32) (h : Hp) : Option (Int64 × Hp) :=
  (ab_ck h (some this) (9, 0)).bind fun a4 =>
  bnd (f_X9_isRun a4 p0 h) fun x1 h2 =>
  if x1 = 0 then
    f_X9_halves_38 h2
  else
    (getR h2 (some this) 9 0).bind fun x7 =>
    (getR h2 (some this) 9 15).bind fun x8 =>
    (aldI h2 x8 11 p0).bind fun x9 =>
    (aldI h2 x7 11 x9).bind fun x10 =>
    bnd (f_X9_in p1 0 (x10 - 1) h2) fun x11 h12 =>
    if x11 = 0 then
      f_X9_halves_38 h12
    else
      (getR h12 (some this) 9 22).bind fun x15 =>
      (aldI h12 x15 12 p0).bind fun x16 =>
      if x16 = 0 then
        (getR h12 (some this) 9 15).bind fun x18 =>
        (aldI h12 x18 11 p0).bind fun x19 =>
        (getR h12 (some this) 9 0).bind fun x20 =>
        (aldI h12 x20 11 x19).bind fun x21 =>
        (getR h12 (some this) 9 26).bind fun x22 =>
        (aldD h12 x22 p0).bind fun x23 =>
        f_X9_halves_68 fuelN (some this) p0 p1 x19 x21 x23 0 h12
      else
        f_X9_halves_38 h12
theorem mi_X9_halves : ab_MI yX9_halves cX9_halves 8 (some .long) 2 := ⟨lc_yX9_halves, lz_RX9, by decide, by decide, by decide +kernel⟩
set_option maxHeartbeats 4000000 in
set_option maxRecDepth 100000 in
theorem c_X9_halves (l : Launch) (D : va_G) (cA : Nat → ClassId) (sz : Nat) {this : Nat} {p0 : Int32} {p1 : Int32} {h hh : Hp} {rr : Int64} (hF : f_X9_halves this p0 p1 h = some (rr, hh)) : ab_C l D cA sz yX9_halves cX9_halves 8 (some .long) 8 0 0 [.ref this, .int p0, .int p1] h (some (.long rr)) hh := by
  refine Met.ofW (cc := cX9_halves) (maxL := 8) (ret := (some .long)) (by decide) rfl ?_
  intro p e s m args below meth c s₁ B hml hv
  obtain ⟨rfl, hT, hR⟩ := hv
  have X : ab_X p s m _ meth c cX9_halves 8 RX9 D cA sz := (ab_enter B hml hT hR).1
  have S := (ab_enter B hml hT hR).2
  have hr := B.returns
  obtain ⟨ls, hls, hl⟩ := ab_entry m [.ref this, .int p0, .int p1] 8 (lv := [(0, .ref this), (1, .int p0), (2, .int p1)]) (by simp [lg_sl, ab_cat, ab_cI, ab_cJ, ab_cD, ab_cF, ab_cA]) (by simp [lv_args, ab_cat, ab_cI, ab_cJ, ab_cD, ab_cF, ab_cA])
  rw [hls]
  have hl : lv_has ls 8 [(0, va_rf (some this)), (1, .int p0), (2, .int p1)] := hl
  unfold f_X9_halves at hF
  show W p l e (ab_rm 8 0 0) s m _ below meth c s.heap [] 0 0 _ _
  refine ab_aload_n X dX9_halves_0 rfl (lv_at hl 0 rfl) ?_
  refine lv_iload_n X.1 X.2.1 dX9_halves_1 rfl (lv_at hl 1 rfl) ?_
  obtain ⟨a4, e5, hF⟩ := bind_out hF
  obtain ⟨x1, h2, e3, hF⟩ := bnd_out hF
  refine ab_callVi X S e5 (c_X9_isRun l D cA sz e3) rfl (by decide) mi_X9_isRun lm_X9_366 li_yX9_isRun ls_yX9_isRun (As := [.int p0]) (rest := []) rfl ⟨by decide, by decide⟩ ⟨(by decide), (by decide)⟩ hl.1 rfl (by simp [ab_cat, ab_cI, ab_cJ, ab_cD, ab_cF]) dX9_halves_2 (fun H1 locs1 S => ?_)
  refine lv_if_eq (tgt := 38) X.1 X.2.1 dX9_halves_5 (by decide) (fun c6 => ?_) (fun c6 => ?_)
  · have hF := ab_pos c6 hF
    exact w_X9_halves_38 X hr  S (lv_sub hl [] rfl) hF
  · have hF := ab_neg c6 hF
    refine lv_iload_n X.1 X.2.1 dX9_halves_8 rfl (lv_at hl 2 rfl) ?_
    refine lv_iconst (v := 0) X.1 X.2.1 dX9_halves_9 (by decide) ?_
    refine ab_aload_n X dX9_halves_10 rfl (lv_at hl 0 rfl) ?_
    refine ab_getR X S hF fi_9_0 lf_X9_9 dX9_halves_11 (fun x7 hF => ?_)
    refine ab_aload_n X dX9_halves_14 rfl (lv_at hl 0 rfl) ?_
    refine ab_getR X S hF fi_9_15 lf_X9_52 dX9_halves_15 (fun x8 hF => ?_)
    refine lv_iload_n X.1 X.2.1 dX9_halves_18 rfl (lv_at hl 1 rfl) ?_
    refine ab_aldI X S hF dX9_halves_19 (fun x9 hF => ?_)
    refine ab_aldI X S hF dX9_halves_20 (fun x10 hF => ?_)
    refine lv_iconst (v := 1) X.1 X.2.1 dX9_halves_21 (by decide) ?_
    refine lv_isub X.1 X.2.1 dX9_halves_22 ?_
    obtain ⟨x11, h12, e13, hF⟩ := bnd_out hF
    refine ab_callSi X S (c_X9_in l D cA sz e13) mi_X9_in lm_X9_343 lt_yX9_in (As := [.int p1, .int 0, .int (x10 - 1)]) (rest := []) rfl ⟨by decide, by decide⟩ ⟨(by decide), (by decide)⟩ hl.1 rfl (by simp [ab_cat, ab_cI, ab_cJ, ab_cD, ab_cF]) dX9_halves_23 (fun H1 locs1 S => ?_)
    refine lv_if_eq (tgt := 38) X.1 X.2.1 dX9_halves_26 (by decide) (fun c14 => ?_) (fun c14 => ?_)
    · have hF := ab_pos c14 hF
      exact w_X9_halves_38 X hr  S (lv_sub hl [] rfl) hF
    · have hF := ab_neg c14 hF
      refine ab_aload_n X dX9_halves_29 rfl (lv_at hl 0 rfl) ?_
      refine ab_getR X S hF fi_9_22 lf_X9_73 dX9_halves_30 (fun x15 hF => ?_)
      refine lv_iload_n X.1 X.2.1 dX9_halves_33 rfl (lv_at hl 1 rfl) ?_
      refine ab_aldZ X S hF dX9_halves_34 (fun x16 hF => ?_)
      refine lv_if_eq (tgt := 42) X.1 X.2.1 dX9_halves_35 (by decide) (fun c17 => ?_) (fun c17 => ?_)
      · have hF := ab_pos c17 hF
        refine ab_aload_n X dX9_halves_42 rfl (lv_at hl 0 rfl) ?_
        refine ab_getR X S hF fi_9_15 lf_X9_52 dX9_halves_43 (fun x18 hF => ?_)
        refine lv_iload_n X.1 X.2.1 dX9_halves_46 rfl (lv_at hl 1 rfl) ?_
        refine ab_aldI X S hF dX9_halves_47 (fun x19 hF => ?_)
        refine lv_istore_n (i := 3) (lv' := [(3, .int x19), (0, va_rf (some this)), (1, .int p0), (2, .int p1)]) X.1 X.2.1 dX9_halves_48 rfl hl (by decide) (by simp [ab_cat, ab_cI, ab_cJ, ab_cD, ab_cF]) (fun ls hl => ?_)
        refine ab_aload_n X dX9_halves_49 rfl (lv_at hl 1 rfl) ?_
        refine ab_getR X S hF fi_9_0 lf_X9_9 dX9_halves_50 (fun x20 hF => ?_)
        refine lv_iload_n X.1 X.2.1 dX9_halves_53 rfl (lv_at hl 0 rfl) ?_
        refine ab_aldI X S hF dX9_halves_54 (fun x21 hF => ?_)
        refine lv_istore (lv' := [(4, .int x21), (3, .int x19), (0, va_rf (some this)), (1, .int p0), (2, .int p1)]) X.1 X.2.1 dX9_halves_55 hl (by decide) (by simp [ab_cat, ab_cI, ab_cJ, ab_cD, ab_cF]) (fun ls hl => ?_)
        refine ab_aload_n X dX9_halves_57 rfl (lv_at hl 2 rfl) ?_
        refine ab_getR X S hF fi_9_26 lf_X9_86 dX9_halves_58 (fun x22 hF => ?_)
        refine lv_iload_n X.1 X.2.1 dX9_halves_61 rfl (lv_at hl 3 rfl) ?_
        refine ab_aldD X S hF dX9_halves_62 (fun x23 hF => ?_)
        refine lv_dstore (lv' := [(5, .double x23), (4, .int x21), (3, .int x19), (0, va_rf (some this)), (1, .int p0), (2, .int p1)]) X.1 X.2.1 dX9_halves_63 hl (by decide) (by simp [ab_cat, ab_cI, ab_cJ, ab_cD, ab_cF]) (fun ls hl => ?_)
        refine lv_iconst (v := 0) X.1 X.2.1 dX9_halves_65 (by decide) ?_
        refine lv_istore (lv' := [(7, .int 0), (5, .double x23), (4, .int x21), (3, .int x19), (0, va_rf (some this)), (1, .int p0), (2, .int p1)]) X.1 X.2.1 dX9_halves_66 hl (by decide) (by simp [ab_cat, ab_cI, ab_cJ, ab_cD, ab_cF]) (fun ls hl => ?_)
        exact w_X9_halves_68 X hr  fuelN _ _ _ _ _ _ _ _ _ _ _ S (lv_sub hl [4, 5, 6, 3, 2, 1, 0] rfl) hF
      · have hF := ab_neg c17 hF
        exact w_X9_halves_38 X hr  S (lv_sub hl [] rfl) hF
