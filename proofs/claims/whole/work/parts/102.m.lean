def f_X6_init_58  : Nat → Option Nat → Int32 → Hp → Option (Unit × Hp)
  | 0, _, _, _ => none
  | n + 1, v0, v2, h => (getR h v0 6 9).bind fun x1 =>
    (alen h x1 14).bind fun x2 =>
    if x2 ≤ v2 then
      newo h 3 fun q5 h4 =>
      bnd (f_X3_init q5 6 h4) fun _ h7 =>
      (putR h7 v0 6 10 (some q5)).bind fun h9 =>
      newo h9 3 fun q11 h10 =>
      bnd (f_X3_init q11 6 h10) fun _ h13 =>
      (putR h13 v0 6 11 (some q11)).bind fun h15 =>
      some ((), h15)
    else
      (getR h v0 6 9).bind fun x16 =>
      newo h 3 fun q18 h17 =>
      bnd (f_X3_init q18 6 h17) fun _ h20 =>
      (astR h20 x16 14 v2 (some q18)).bind fun h22 =>
      f_X6_init_58 n v0 (v2 + 1) h22
set_option maxHeartbeats 4000000 in
set_option maxRecDepth 100000 in
theorem w_X6_init_58 {p : Program} {l : Launch} {e : Env} {s : State} {m : MethodId} {args : Array Value} {below : List Frame} {meth : Method} {c : Code} {D : va_G} {cA : Nat → ClassId} {sz : Nat}  {hh : Hp}  (X : ab_X p s m args meth c cX6_init 3 RX6 D cA sz) (hr : meth.sig.returnType = none) (hin : meth.name = "<init>")  (n : Nat) : ∀ (cells slots : Nat) (_ : cells + 3 * n ≤ 25) (_ : slots + 2002 * n ≤ 17016) (v0 : Option Nat) (v2 : Int32) (h : Hp) (H : Heap) (locs : List Loc) (ls : Array Slot), ab_H D cA sz h s H locs → lv_has ls 3 [(0, va_rf v0), (2, .int v2)] → f_X6_init_58 n v0 v2 h = some ((), hh) → W p l e (ab_rm 2 31 21020) s m args below meth c H locs cells slots (MQ below (ab_Q D cA sz none hh) args s 31 21020 (fun q => sz ≤ q)) (F0 m 58 ls []) := by
  induction n with
  | zero => intro cells slots hc1 hc2 v0 v2 h H locs ls S hl hF; cases hF
  | succ n ih =>
    intro cells slots hc1 hc2 v0 v2 h H locs ls S hl hF
    rw [f_X6_init_58] at hF
    refine lv_iload_n X.1 X.2.1 dX6_init_58 rfl (lv_at hl 1 rfl) ?_
    refine ab_aload_n X dX6_init_59 rfl (lv_at hl 0 rfl) ?_
    refine ab_getR X S hF fi_6_9 lf_X6_30 dX6_init_60 (fun x1 hF => ?_)
    refine ab_alen X S hF rfl (by decide) dX6_init_63 (fun x2 hF => ?_)
    refine lv_icmp_ge (tgt := 88) X.1 X.2.1 dX6_init_64 (by decide) (fun c3 => ?_) (fun c3 => ?_)
    · have hF := ab_pos c3 hF
      refine ab_aload_n X dX6_init_88 rfl (lv_at hl 0 rfl) ?_
      refine ab_newx X S hF fi_3_0 ci_3 df_3 lk_X6_15 ln_RX3_2 lz_RX3 (by dsimp only [ab_rm]; omega) (by dsimp only [ab_rm]; omega) dX6_init_89 (fun q5 h4 H1 hF S => ?_)
      refine lv_dup X.1 X.2.1 dX6_init_92 (by simp [ab_cat, ab_cI, ab_cJ, ab_cD, ab_cF]) ?_
      refine lv_bipush (v := 6) X.1 X.2.1 dX6_init_93 (by decide) ?_
      obtain ⟨x6, h7, e8, hF⟩ := bnd_out hF
      refine ab_callIv X S (c_X3_init l D cA sz e8) mi_X3_init rfl lm_X6_17 li_yX3_init (As := [.int 6]) (rest := [va_rf (some q5), va_rf v0]) rfl ⟨by decide, by decide⟩ ⟨(by dsimp only [ab_rm]; omega), (by dsimp only [ab_rm]; omega)⟩ hl.1 rfl (by simp [ab_cat, ab_cI, ab_cJ, ab_cD, ab_cF]) dX6_init_95 (fun H1 locs1 S => ?_)
      refine ab_putR X S hF fi_6_10 ci_6 (Or.inr ⟨rfl, hin, rfl⟩) (fun q => by cases q <;> rfl) (fun q => by cases q <;> rfl) lf_X6_34 dX6_init_98 (fun h9 H1 locs1 hF S => ?_)
      refine ab_aload_n X dX6_init_101 rfl (lv_at hl 0 rfl) ?_
      refine ab_newx X S hF fi_3_0 ci_3 df_3 lk_X6_15 ln_RX3_2 lz_RX3 (by dsimp only [ab_rm]; omega) (by dsimp only [ab_rm]; omega) dX6_init_102 (fun q11 h10 H1 hF S => ?_)
      refine lv_dup X.1 X.2.1 dX6_init_105 (by simp [ab_cat, ab_cI, ab_cJ, ab_cD, ab_cF]) ?_
      refine lv_bipush (v := 6) X.1 X.2.1 dX6_init_106 (by decide) ?_
      obtain ⟨x12, h13, e14, hF⟩ := bnd_out hF
      refine ab_callIv X S (c_X3_init l D cA sz e14) mi_X3_init rfl lm_X6_17 li_yX3_init (As := [.int 6]) (rest := [va_rf (some q11), va_rf v0]) rfl ⟨by decide, by decide⟩ ⟨(by dsimp only [ab_rm]; omega), (by dsimp only [ab_rm]; omega)⟩ hl.1 rfl (by simp [ab_cat, ab_cI, ab_cJ, ab_cD, ab_cF]) dX6_init_108 (fun H1 locs1 S => ?_)
      refine ab_putR X S hF fi_6_11 ci_6 (Or.inr ⟨rfl, hin, rfl⟩) (fun q => by cases q <;> rfl) (fun q => by cases q <;> rfl) lf_X6_37 dX6_init_111 (fun h15 H1 locs1 hF S => ?_)
      refine W.widen (k := 31) (n := 21020) (by omega) (by omega) ?_
      exact ab_vret X S hr hF dX6_init_114
    · have hF := ab_neg c3 hF
      refine ab_aload_n X dX6_init_67 rfl (lv_at hl 0 rfl) ?_
      refine ab_getR X S hF fi_6_9 lf_X6_30 dX6_init_68 (fun x16 hF => ?_)
      refine lv_iload_n X.1 X.2.1 dX6_init_71 rfl (lv_at hl 1 rfl) ?_
      refine ab_newx X S hF fi_3_0 ci_3 df_3 lk_X6_15 ln_RX3_2 lz_RX3 (by dsimp only [ab_rm]; omega) (by dsimp only [ab_rm]; omega) dX6_init_72 (fun q18 h17 H1 hF S => ?_)
      refine lv_dup X.1 X.2.1 dX6_init_75 (by simp [ab_cat, ab_cI, ab_cJ, ab_cD, ab_cF]) ?_
      refine lv_bipush (v := 6) X.1 X.2.1 dX6_init_76 (by decide) ?_
      obtain ⟨x19, h20, e21, hF⟩ := bnd_out hF
      refine ab_callIv X S (c_X3_init l D cA sz e21) mi_X3_init rfl lm_X6_17 li_yX3_init (As := [.int 6]) (rest := [va_rf (some q18), .int v2, va_rf x16]) rfl ⟨by decide, by decide⟩ ⟨(by dsimp only [ab_rm]; omega), (by dsimp only [ab_rm]; omega)⟩ hl.1 rfl (by simp [ab_cat, ab_cI, ab_cJ, ab_cD, ab_cF]) dX6_init_78 (fun H1 locs1 S => ?_)
      refine ab_astR X S hF rfl (by decide) rfl dX6_init_81 (fun h22 H1 locs1 hF S => ?_)
      refine lv_iinc (v := v2 + 1) (lv' := [(2, .int (v2 + 1)), (0, va_rf v0)]) X.1 X.2.1 dX6_init_82 hl (k := 1) rfl (by rfl) (by decide) (by simp [ab_cat, ab_cI, ab_cJ, ab_cD, ab_cF]) (fun ls hl => ?_)
      refine lv_goto (tgt := 58) X.1 X.2.1 dX6_init_85 (by decide) ?_
      exact ih _ _ (by omega) (by omega) _ _ _ _ _ _ S (lv_sub hl [1, 0] rfl) hF
def f_X6_init (this : Nat) (p0 : Option Nat) (h : Hp) : Option (Unit × Hp) :=
  (putR h (some this) 6 0 p0).bind fun h1 =>
  newo h1 3 fun q3 h2 =>
  bnd (f_X3_init q3 6 h2) fun _ h5 =>
  (putR h5 (some this) 6 6 (some q3)).bind fun h7 =>
  newo h7 3 fun q9 h8 =>
  bnd (f_X3_init q9 6 h8) fun _ h11 =>
  (putR h11 (some this) 6 7 (some q9)).bind fun h13 =>
  newo h13 3 fun q15 h14 =>
  bnd (f_X3_init q15 6 h14) fun _ h17 =>
  (putR h17 (some this) 6 8 (some q15)).bind fun h19 =>
  bnd (newa h19 14 4) fun x21 h20 =>
  (putR h20 (some this) 6 9 x21).bind fun h22 =>
  f_X6_init_58 5 (some this) 0 h22
theorem mi_X6_init : ab_MI yX6_init cX6_init 3 none 1 := ⟨lc_yX6_init, lz_RX6, by decide, by decide, by decide +kernel⟩
set_option maxHeartbeats 4000000 in
set_option maxRecDepth 100000 in
theorem c_X6_init (l : Launch) (D : va_G) (cA : Nat → ClassId) (sz : Nat) {this : Nat} {p0 : Option Nat} {h hh : Hp}  (hF : f_X6_init this p0 h = some ((), hh)) : ab_C l D cA sz yX6_init cX6_init 3 none 2 31 21020 [.ref this, va_rf p0] h none hh := by
  refine Met.ofW (cc := cX6_init) (maxL := 3) (ret := none) (by decide) rfl ?_
  intro p e s m args below meth c s₁ B hml hv
  obtain ⟨rfl, hT, hR⟩ := hv
  have X : ab_X p s m _ meth c cX6_init 3 RX6 D cA sz := (ab_enter B hml hT hR).1
  have S := (ab_enter B hml hT hR).2
  have hr := B.returns
  obtain ⟨ls, hls, hl⟩ := ab_entry m [.ref this, va_rf p0] 3 (lv := [(0, .ref this), (1, va_rf p0)]) (by simp [lg_sl, ab_cat, ab_cI, ab_cJ, ab_cD, ab_cF, ab_cA]) (by simp [lv_args, ab_cat, ab_cI, ab_cJ, ab_cD, ab_cF, ab_cA])
  rw [hls]
  have hl : lv_has ls 3 [(0, va_rf (some this)), (1, va_rf p0)] := hl
  have hin : meth.name = "<init>" := (name_of_methodNamed B.named B.method).1
  unfold f_X6_init at hF
  show W p l e (ab_rm 2 31 21020) s m _ below meth c s.heap [] 0 0 _ _
  refine ab_aload_n X dX6_init_0 rfl (lv_at hl 0 rfl) ?_
  refine ab_objInit X lm_X6_3 hl.1 (by decide) (by simp [ab_cat, ab_cI, ab_cJ, ab_cD, ab_cF]) dX6_init_1 ?_
  refine ab_aload_n X dX6_init_4 rfl (lv_at hl 0 rfl) ?_
  refine ab_aload_n X dX6_init_5 rfl (lv_at hl 1 rfl) ?_
  refine ab_putR X S hF fi_6_0 ci_6 (Or.inr ⟨rfl, hin, rfl⟩) (fun q => by cases q <;> rfl) (fun q => by cases q <;> rfl) lf_X6_9 dX6_init_6 (fun h1 H1 locs1 hF S => ?_)
  refine ab_aload_n X dX6_init_9 rfl (lv_at hl 0 rfl) ?_
  refine ab_newx X S hF fi_3_0 ci_3 df_3 lk_X6_15 ln_RX3_2 lz_RX3 (by decide) (by decide) dX6_init_10 (fun q3 h2 H1 hF S => ?_)
  refine lv_dup X.1 X.2.1 dX6_init_13 (by simp [ab_cat, ab_cI, ab_cJ, ab_cD, ab_cF]) ?_
  refine lv_bipush (v := 6) X.1 X.2.1 dX6_init_14 (by decide) ?_
  obtain ⟨x4, h5, e6, hF⟩ := bnd_out hF
  refine ab_callIv X S (c_X3_init l D cA sz e6) mi_X3_init rfl lm_X6_17 li_yX3_init (As := [.int 6]) (rest := [va_rf (some q3), va_rf (some this)]) rfl ⟨by decide, by decide⟩ ⟨(by decide), (by decide)⟩ hl.1 rfl (by simp [ab_cat, ab_cI, ab_cJ, ab_cD, ab_cF]) dX6_init_16 (fun H1 locs1 S => ?_)
  refine ab_putR X S hF fi_6_6 ci_6 (Or.inr ⟨rfl, hin, rfl⟩) (fun q => by cases q <;> rfl) (fun q => by cases q <;> rfl) lf_X6_20 dX6_init_19 (fun h7 H1 locs1 hF S => ?_)
  refine ab_aload_n X dX6_init_22 rfl (lv_at hl 0 rfl) ?_
  refine ab_newx X S hF fi_3_0 ci_3 df_3 lk_X6_15 ln_RX3_2 lz_RX3 (by decide) (by decide) dX6_init_23 (fun q9 h8 H1 hF S => ?_)
  refine lv_dup X.1 X.2.1 dX6_init_26 (by simp [ab_cat, ab_cI, ab_cJ, ab_cD, ab_cF]) ?_
  refine lv_bipush (v := 6) X.1 X.2.1 dX6_init_27 (by decide) ?_
  obtain ⟨x10, h11, e12, hF⟩ := bnd_out hF
  refine ab_callIv X S (c_X3_init l D cA sz e12) mi_X3_init rfl lm_X6_17 li_yX3_init (As := [.int 6]) (rest := [va_rf (some q9), va_rf (some this)]) rfl ⟨by decide, by decide⟩ ⟨(by decide), (by decide)⟩ hl.1 rfl (by simp [ab_cat, ab_cI, ab_cJ, ab_cD, ab_cF]) dX6_init_29 (fun H1 locs1 S => ?_)
  refine ab_putR X S hF fi_6_7 ci_6 (Or.inr ⟨rfl, hin, rfl⟩) (fun q => by cases q <;> rfl) (fun q => by cases q <;> rfl) lf_X6_24 dX6_init_32 (fun h13 H1 locs1 hF S => ?_)
  refine ab_aload_n X dX6_init_35 rfl (lv_at hl 0 rfl) ?_
  refine ab_newx X S hF fi_3_0 ci_3 df_3 lk_X6_15 ln_RX3_2 lz_RX3 (by decide) (by decide) dX6_init_36 (fun q15 h14 H1 hF S => ?_)
  refine lv_dup X.1 X.2.1 dX6_init_39 (by simp [ab_cat, ab_cI, ab_cJ, ab_cD, ab_cF]) ?_
  refine lv_bipush (v := 6) X.1 X.2.1 dX6_init_40 (by decide) ?_
  obtain ⟨x16, h17, e18, hF⟩ := bnd_out hF
  refine ab_callIv X S (c_X3_init l D cA sz e18) mi_X3_init rfl lm_X6_17 li_yX3_init (As := [.int 6]) (rest := [va_rf (some q15), va_rf (some this)]) rfl ⟨by decide, by decide⟩ ⟨(by decide), (by decide)⟩ hl.1 rfl (by simp [ab_cat, ab_cI, ab_cJ, ab_cD, ab_cF]) dX6_init_42 (fun H1 locs1 S => ?_)
  refine ab_putR X S hF fi_6_8 ci_6 (Or.inr ⟨rfl, hin, rfl⟩) (fun q => by cases q <;> rfl) (fun q => by cases q <;> rfl) lf_X6_27 dX6_init_45 (fun h19 H1 locs1 hF S => ?_)
  refine ab_aload_n X dX6_init_48 rfl (lv_at hl 0 rfl) ?_
  refine lv_iconst (v := 4) X.1 X.2.1 dX6_init_49 (by decide) ?_
  refine ab_newR X S hF rfl (by decide) X.2.2.2.2.2.1.2.2.2.2.1 lk_X6_15 (by decide) (by decide) dX6_init_50 (fun x21 h20 H1 hF S => ?_)
  refine ab_putR X S hF fi_6_9 ci_6 (Or.inr ⟨rfl, hin, rfl⟩) (fun q => by cases q <;> rfl) (fun q => by cases q <;> rfl) lf_X6_30 dX6_init_53 (fun h22 H1 locs1 hF S => ?_)
  refine lv_iconst (v := 0) X.1 X.2.1 dX6_init_56 (by decide) ?_
  refine lv_istore_n (i := 2) (lv' := [(2, .int 0), (0, va_rf (some this)), (1, va_rf p0)]) X.1 X.2.1 dX6_init_57 rfl hl (by decide) (by simp [ab_cat, ab_cI, ab_cJ, ab_cD, ab_cF]) (fun ls hl => ?_)
  exact w_X6_init_58 X hr hin  5 _ _ (by omega) (by omega) _ _ _ _ _ _ S (lv_sub hl [1, 0] rfl) hF
def f_X6_copy_64  : Nat → Option Nat → Option Nat → Int32 → Hp → Option (Unit × Hp)
  | 0, _, _, _, _ => none
  | n + 1, v0, v1, v2, h => (getR h v0 6 9).bind fun x1 =>
    (alen h x1 14).bind fun x2 =>
    if x2 ≤ v2 then
      (getR h v0 6 10).bind fun x4 =>
      (getR h v1 6 10).bind fun x5 =>
      (ab_ck h x4 (3, 0)).bind fun a9 =>
      bnd (f_X3_copy a9 x5 h) fun _ h7 =>
      (getR h7 v0 6 11).bind fun x11 =>
      (getR h7 v1 6 11).bind fun x12 =>
      (ab_ck h7 x11 (3, 0)).bind fun a16 =>
      bnd (f_X3_copy a16 x12 h7) fun _ h14 =>
      (getD h14 v1 6 12).bind fun x18 =>
      (putD h14 v0 6 12 x18).bind fun h19 =>
      (getI h19 v1 6 13).bind fun x20 =>
      (putI h19 v0 6 13 x20).bind fun h21 =>
      some ((), h21)
    else
      (getR h v0 6 9).bind fun x22 =>
      (aldR h x22 14 v2).bind fun x23 =>
      (getR h v1 6 9).bind fun x24 =>
      (aldR h x24 14 v2).bind fun x25 =>
      (ab_ck h x23 (3, 0)).bind fun a29 =>
      bnd (f_X3_copy a29 x25 h) fun _ h27 =>
      f_X6_copy_64 n v0 v1 (v2 + 1) h27
set_option maxHeartbeats 4000000 in
set_option maxRecDepth 100000 in
theorem w_X6_copy_64 {p : Program} {l : Launch} {e : Env} {s : State} {m : MethodId} {args : Array Value} {below : List Frame} {meth : Method} {c : Code} {D : va_G} {cA : Nat → ClassId} {sz : Nat}  {hh : Hp}  (X : ab_X p s m args meth c cX6_copy 3 RX6 D cA sz) (hr : meth.sig.returnType = none)  (n : Nat) : ∀ (v0 : Option Nat) (v1 : Option Nat) (v2 : Int32) (h : Hp) (H : Heap) (locs : List Loc) (ls : Array Slot), ab_H D cA sz h s H locs → lv_has ls 3 [(0, va_rf v0), (1, va_rf v1), (2, .int v2)] → f_X6_copy_64 n v0 v1 v2 h = some ((), hh) → W p l e (ab_rm 1 0 0) s m args below meth c H locs 0 0 (MQ below (ab_Q D cA sz none hh) args s 0 0 (fun q => sz ≤ q)) (F0 m 64 ls []) := by
  induction n with
  | zero => intro v0 v1 v2 h H locs ls S hl hF; cases hF
  | succ n ih =>
    intro v0 v1 v2 h H locs ls S hl hF
    rw [f_X6_copy_64] at hF
    refine lv_iload_n X.1 X.2.1 dX6_copy_64 rfl (lv_at hl 2 rfl) ?_
    refine ab_aload_n X dX6_copy_65 rfl (lv_at hl 0 rfl) ?_
    refine ab_getR X S hF fi_6_9 lf_X6_30 dX6_copy_66 (fun x1 hF => ?_)
    refine ab_alen X S hF rfl (by decide) dX6_copy_69 (fun x2 hF => ?_)
    refine lv_icmp_ge (tgt := 94) X.1 X.2.1 dX6_copy_70 (by decide) (fun c3 => ?_) (fun c3 => ?_)
    · have hF := ab_pos c3 hF
      refine ab_aload_n X dX6_copy_94 rfl (lv_at hl 0 rfl) ?_
      refine ab_getR X S hF fi_6_10 lf_X6_34 dX6_copy_95 (fun x4 hF => ?_)
      refine ab_aload_n X dX6_copy_98 rfl (lv_at hl 1 rfl) ?_
      refine ab_getR X S hF fi_6_10 lf_X6_34 dX6_copy_99 (fun x5 hF => ?_)
      obtain ⟨a9, e10, hF⟩ := bind_out hF
      obtain ⟨x6, h7, e8, hF⟩ := bnd_out hF
      refine ab_callVv X S e10 (c_X3_copy l D cA sz e8) rfl (by decide) mi_X3_copy lm_X6_58 li_yX3_copy ls_yX3_copy (As := [va_rf x5]) (rest := []) rfl ⟨by decide, by decide⟩ ⟨(by decide), (by decide)⟩ hl.1 rfl (by simp [ab_cat, ab_cI, ab_cJ, ab_cD, ab_cF]) dX6_copy_102 (fun H1 locs1 S => ?_)
      refine ab_aload_n X dX6_copy_105 rfl (lv_at hl 0 rfl) ?_
      refine ab_getR X S hF fi_6_11 lf_X6_37 dX6_copy_106 (fun x11 hF => ?_)
      refine ab_aload_n X dX6_copy_109 rfl (lv_at hl 1 rfl) ?_
      refine ab_getR X S hF fi_6_11 lf_X6_37 dX6_copy_110 (fun x12 hF => ?_)
      obtain ⟨a16, e17, hF⟩ := bind_out hF
      obtain ⟨x13, h14, e15, hF⟩ := bnd_out hF
      refine ab_callVv X S e17 (c_X3_copy l D cA sz e15) rfl (by decide) mi_X3_copy lm_X6_58 li_yX3_copy ls_yX3_copy (As := [va_rf x12]) (rest := []) rfl ⟨by decide, by decide⟩ ⟨(by decide), (by decide)⟩ hl.1 rfl (by simp [ab_cat, ab_cI, ab_cJ, ab_cD, ab_cF]) dX6_copy_113 (fun H1 locs1 S => ?_)
      refine ab_aload_n X dX6_copy_116 rfl (lv_at hl 0 rfl) ?_
      refine ab_aload_n X dX6_copy_117 rfl (lv_at hl 1 rfl) ?_
      refine ab_getD X S hF fi_6_12 lf_X6_62 dX6_copy_118 (fun x18 hF => ?_)
      refine ab_putD X S hF fi_6_12 ci_6 (Or.inl rfl) rfl lf_X6_62 dX6_copy_121 (fun h19 H1 locs1 hF S => ?_)
      refine ab_aload_n X dX6_copy_124 rfl (lv_at hl 0 rfl) ?_
      refine ab_aload_n X dX6_copy_125 rfl (lv_at hl 1 rfl) ?_
      refine ab_getI X S hF fi_6_13 lf_X6_65 dX6_copy_126 (fun x20 hF => ?_)
      refine ab_putI X S hF fi_6_13 ci_6 (Or.inl rfl) rfl lf_X6_65 dX6_copy_129 (fun h21 H1 locs1 hF S => ?_)
      exact ab_vret X S hr hF dX6_copy_132
    · have hF := ab_neg c3 hF
      refine ab_aload_n X dX6_copy_73 rfl (lv_at hl 0 rfl) ?_
      refine ab_getR X S hF fi_6_9 lf_X6_30 dX6_copy_74 (fun x22 hF => ?_)
      refine lv_iload_n X.1 X.2.1 dX6_copy_77 rfl (lv_at hl 2 rfl) ?_
      refine ab_aldR X S hF rfl (by decide) dX6_copy_78 (fun x23 hF => ?_)
      refine ab_aload_n X dX6_copy_79 rfl (lv_at hl 1 rfl) ?_
      refine ab_getR X S hF fi_6_9 lf_X6_30 dX6_copy_80 (fun x24 hF => ?_)
      refine lv_iload_n X.1 X.2.1 dX6_copy_83 rfl (lv_at hl 2 rfl) ?_
      refine ab_aldR X S hF rfl (by decide) dX6_copy_84 (fun x25 hF => ?_)
      obtain ⟨a29, e30, hF⟩ := bind_out hF
      obtain ⟨x26, h27, e28, hF⟩ := bnd_out hF
      refine ab_callVv X S e30 (c_X3_copy l D cA sz e28) rfl (by decide) mi_X3_copy lm_X6_58 li_yX3_copy ls_yX3_copy (As := [va_rf x25]) (rest := []) rfl ⟨by decide, by decide⟩ ⟨(by decide), (by decide)⟩ hl.1 rfl (by simp [ab_cat, ab_cI, ab_cJ, ab_cD, ab_cF]) dX6_copy_85 (fun H1 locs1 S => ?_)
      refine lv_iinc (v := v2 + 1) (lv' := [(2, .int (v2 + 1)), (0, va_rf v0), (1, va_rf v1)]) X.1 X.2.1 dX6_copy_88 hl (k := 2) rfl (by rfl) (by decide) (by simp [ab_cat, ab_cI, ab_cJ, ab_cD, ab_cF]) (fun ls hl => ?_)
      refine lv_goto (tgt := 64) X.1 X.2.1 dX6_copy_91 (by decide) ?_
      exact ih _ _ _ _ _ _ _ S (lv_sub hl [1, 2, 0] rfl) hF
def f_X6_copy (this : Nat) (p0 : Option Nat) (h : Hp) : Option (Unit × Hp) :=
  (getR h p0 6 1).bind fun x1 =>
  (putR h (some this) 6 1 x1).bind fun h2 =>
  (getI h2 p0 6 2).bind fun x3 =>
  (putI h2 (some this) 6 2 x3).bind fun h4 =>
  (getD h4 p0 6 3).bind fun x5 =>
  (putD h4 (some this) 6 3 x5).bind fun h6 =>
  (getD h6 p0 6 4).bind fun x7 =>
  (putD h6 (some this) 6 4 x7).bind fun h8 =>
  (getD h8 p0 6 5).bind fun x9 =>
  (putD h8 (some this) 6 5 x9).bind fun h10 =>
  (getR h10 (some this) 6 6).bind fun x11 =>
  (getR h10 p0 6 6).bind fun x12 =>
  (ab_ck h10 x11 (3, 0)).bind fun a16 =>
  bnd (f_X3_copy a16 x12 h10) fun _ h14 =>
  (getR h14 (some this) 6 8).bind fun x18 =>
  (getR h14 p0 6 8).bind fun x19 =>
  (ab_ck h14 x18 (3, 0)).bind fun a23 =>
  bnd (f_X3_copy a23 x19 h14) fun _ h21 =>
  f_X6_copy_64 fuelN (some this) p0 0 h21
theorem mi_X6_copy : ab_MI yX6_copy cX6_copy 3 none 1 := ⟨lc_yX6_copy, lz_RX6, by decide, by decide, by decide +kernel⟩
set_option maxHeartbeats 4000000 in
set_option maxRecDepth 100000 in
theorem c_X6_copy (l : Launch) (D : va_G) (cA : Nat → ClassId) (sz : Nat) {this : Nat} {p0 : Option Nat} {h hh : Hp}  (hF : f_X6_copy this p0 h = some ((), hh)) : ab_C l D cA sz yX6_copy cX6_copy 3 none 1 0 0 [.ref this, va_rf p0] h none hh := by
  refine Met.ofW (cc := cX6_copy) (maxL := 3) (ret := none) (by decide) rfl ?_
  intro p e s m args below meth c s₁ B hml hv
  obtain ⟨rfl, hT, hR⟩ := hv
  have X : ab_X p s m _ meth c cX6_copy 3 RX6 D cA sz := (ab_enter B hml hT hR).1
  have S := (ab_enter B hml hT hR).2
  have hr := B.returns
  obtain ⟨ls, hls, hl⟩ := ab_entry m [.ref this, va_rf p0] 3 (lv := [(0, .ref this), (1, va_rf p0)]) (by simp [lg_sl, ab_cat, ab_cI, ab_cJ, ab_cD, ab_cF, ab_cA]) (by simp [lv_args, ab_cat, ab_cI, ab_cJ, ab_cD, ab_cF, ab_cA])
  rw [hls]
  have hl : lv_has ls 3 [(0, va_rf (some this)), (1, va_rf p0)] := hl
  unfold f_X6_copy at hF
  show W p l e (ab_rm 1 0 0) s m _ below meth c s.heap [] 0 0 _ _
  refine ab_aload_n X dX6_copy_0 rfl (lv_at hl 0 rfl) ?_
  refine ab_aload_n X dX6_copy_1 rfl (lv_at hl 1 rfl) ?_
  refine ab_getR X S hF fi_6_1 lf_X6_40 dX6_copy_2 (fun x1 hF => ?_)
  refine ab_putR X S hF fi_6_1 ci_6 (Or.inl rfl) (fun q => by cases q <;> rfl) (fun q => by cases q <;> rfl) lf_X6_40 dX6_copy_5 (fun h2 H1 locs1 hF S => ?_)
  refine ab_aload_n X dX6_copy_8 rfl (lv_at hl 0 rfl) ?_
  refine ab_aload_n X dX6_copy_9 rfl (lv_at hl 1 rfl) ?_
  refine ab_getI X S hF fi_6_2 lf_X6_44 dX6_copy_10 (fun x3 hF => ?_)
  refine ab_putI X S hF fi_6_2 ci_6 (Or.inl rfl) rfl lf_X6_44 dX6_copy_13 (fun h4 H1 locs1 hF S => ?_)
  refine ab_aload_n X dX6_copy_16 rfl (lv_at hl 0 rfl) ?_
  refine ab_aload_n X dX6_copy_17 rfl (lv_at hl 1 rfl) ?_
  refine ab_getD X S hF fi_6_3 lf_X6_48 dX6_copy_18 (fun x5 hF => ?_)
  refine ab_putD X S hF fi_6_3 ci_6 (Or.inl rfl) rfl lf_X6_48 dX6_copy_21 (fun h6 H1 locs1 hF S => ?_)
  refine ab_aload_n X dX6_copy_24 rfl (lv_at hl 0 rfl) ?_
  refine ab_aload_n X dX6_copy_25 rfl (lv_at hl 1 rfl) ?_
  refine ab_getD X S hF fi_6_4 lf_X6_52 dX6_copy_26 (fun x7 hF => ?_)
  refine ab_putD X S hF fi_6_4 ci_6 (Or.inl rfl) rfl lf_X6_52 dX6_copy_29 (fun h8 H1 locs1 hF S => ?_)
  refine ab_aload_n X dX6_copy_32 rfl (lv_at hl 0 rfl) ?_
  refine ab_aload_n X dX6_copy_33 rfl (lv_at hl 1 rfl) ?_
  refine ab_getD X S hF fi_6_5 lf_X6_55 dX6_copy_34 (fun x9 hF => ?_)
  refine ab_putD X S hF fi_6_5 ci_6 (Or.inl rfl) rfl lf_X6_55 dX6_copy_37 (fun h10 H1 locs1 hF S => ?_)
  refine ab_aload_n X dX6_copy_40 rfl (lv_at hl 0 rfl) ?_
  refine ab_getR X S hF fi_6_6 lf_X6_20 dX6_copy_41 (fun x11 hF => ?_)
  refine ab_aload_n X dX6_copy_44 rfl (lv_at hl 1 rfl) ?_
  refine ab_getR X S hF fi_6_6 lf_X6_20 dX6_copy_45 (fun x12 hF => ?_)
  obtain ⟨a16, e17, hF⟩ := bind_out hF
  obtain ⟨x13, h14, e15, hF⟩ := bnd_out hF
  refine ab_callVv X S e17 (c_X3_copy l D cA sz e15) rfl (by decide) mi_X3_copy lm_X6_58 li_yX3_copy ls_yX3_copy (As := [va_rf x12]) (rest := []) rfl ⟨by decide, by decide⟩ ⟨(by decide), (by decide)⟩ hl.1 rfl (by simp [ab_cat, ab_cI, ab_cJ, ab_cD, ab_cF]) dX6_copy_48 (fun H1 locs1 S => ?_)
  refine ab_aload_n X dX6_copy_51 rfl (lv_at hl 0 rfl) ?_
  refine ab_getR X S hF fi_6_8 lf_X6_27 dX6_copy_52 (fun x18 hF => ?_)
  refine ab_aload_n X dX6_copy_55 rfl (lv_at hl 1 rfl) ?_
  refine ab_getR X S hF fi_6_8 lf_X6_27 dX6_copy_56 (fun x19 hF => ?_)
  obtain ⟨a23, e24, hF⟩ := bind_out hF
  obtain ⟨x20, h21, e22, hF⟩ := bnd_out hF
  refine ab_callVv X S e24 (c_X3_copy l D cA sz e22) rfl (by decide) mi_X3_copy lm_X6_58 li_yX3_copy ls_yX3_copy (As := [va_rf x19]) (rest := []) rfl ⟨by decide, by decide⟩ ⟨(by decide), (by decide)⟩ hl.1 rfl (by simp [ab_cat, ab_cI, ab_cJ, ab_cD, ab_cF]) dX6_copy_59 (fun H1 locs1 S => ?_)
  refine lv_iconst (v := 0) X.1 X.2.1 dX6_copy_62 (by decide) ?_
  refine lv_istore_n (i := 2) (lv' := [(2, .int 0), (0, va_rf (some this)), (1, va_rf p0)]) X.1 X.2.1 dX6_copy_63 rfl hl (by decide) (by simp [ab_cat, ab_cI, ab_cJ, ab_cD, ab_cF]) (fun ls hl => ?_)
  exact w_X6_copy_64 X hr  fuelN _ _ _ _ _ _ _ S (lv_sub hl [1, 2, 0] rfl) hF
def f_X6_arrive (this : Nat) (p0 : Option Nat) (p1 : Int32) (p2 : Option Nat) (p3 : UInt64) (p4 : UInt64) (h : Hp) : Option (Unit × Hp) :=
  (getR h (some this) 6 0).bind fun x1 =>
  (ab_ck h x1 (2, 0)).bind fun a5 =>
  bnd (f_X2_product a5 p3 p4 h) fun x2 h3 =>
  (getR h3 (some this) 6 0).bind fun x7 =>
  (getR h3 (some this) 6 0).bind fun x8 =>
  (ab_ck h3 x8 (2, 0)).bind fun a12 =>
  bnd (f_X2_read a12 p2 p1 h3) fun x9 h10 =>
  (ab_ck h10 x7 (2, 0)).bind fun a17 =>
  bnd (f_X2_sum a17 x9 x2 h10) fun x14 h15 =>
  (getR h15 (some this) 6 0).bind fun x19 =>
  (getI h15 x19 2 1).bind fun x20 =>
  (getR h15 (some this) 6 1).bind fun x21 =>
  (ab_ck h15 x21 (1, 0)).bind fun a25 =>
  bnd (f_X1_isNarrow a25 p1 h15) fun x22 h23 =>
  (ab_ck h23 p0 (3, 0)).bind fun a30 =>
  bnd (f_X3_put a30 p1 x14 x20 x22 h23) fun _ h28 =>
  some ((), h28)
theorem mi_X6_arrive : ab_MI yX6_arrive cX6_arrive 12 none 5 := ⟨lc_yX6_arrive, lz_RX6, by decide, by decide, by decide +kernel⟩
set_option maxHeartbeats 4000000 in
set_option maxRecDepth 100000 in
theorem c_X6_arrive (l : Launch) (D : va_G) (cA : Nat → ClassId) (sz : Nat) {this : Nat} {p0 : Option Nat} {p1 : Int32} {p2 : Option Nat} {p3 : UInt64} {p4 : UInt64} {h hh : Hp}  (hF : f_X6_arrive this p0 p1 p2 p3 p4 h = some ((), hh)) : ab_C l D cA sz yX6_arrive cX6_arrive 12 none 1 0 0 [.ref this, va_rf p0, .int p1, va_rf p2, .double p3, .double p4] h none hh := by
  refine Met.ofW (cc := cX6_arrive) (maxL := 12) (ret := none) (by decide) rfl ?_
  intro p e s m args below meth c s₁ B hml hv
  obtain ⟨rfl, hT, hR⟩ := hv
  have X : ab_X p s m _ meth c cX6_arrive 12 RX6 D cA sz := (ab_enter B hml hT hR).1
  have S := (ab_enter B hml hT hR).2
  have hr := B.returns
  obtain ⟨ls, hls, hl⟩ := ab_entry m [.ref this, va_rf p0, .int p1, va_rf p2, .double p3, .double p4] 12 (lv := [(0, .ref this), (1, va_rf p0), (2, .int p1), (3, va_rf p2), (4, .double p3), (6, .double p4)]) (by simp [lg_sl, ab_cat, ab_cI, ab_cJ, ab_cD, ab_cF, ab_cA]) (by simp [lv_args, ab_cat, ab_cI, ab_cJ, ab_cD, ab_cF, ab_cA])
  rw [hls]
  have hl : lv_has ls 12 [(0, va_rf (some this)), (1, va_rf p0), (2, .int p1), (3, va_rf p2), (4, .double p3), (6, .double p4)] := hl
  unfold f_X6_arrive at hF
  show W p l e (ab_rm 1 0 0) s m _ below meth c s.heap [] 0 0 _ _
  refine ab_aload_n X dX6_arrive_0 rfl (lv_at hl 0 rfl) ?_
  refine ab_getR X S hF fi_6_0 lf_X6_9 dX6_arrive_1 (fun x1 hF => ?_)
  refine lv_dload X.1 X.2.1 dX6_arrive_4 (lv_at hl 4 rfl) ?_
  refine lv_dload X.1 X.2.1 dX6_arrive_6 (lv_at hl 5 rfl) ?_
  obtain ⟨a5, e6, hF⟩ := bind_out hF
  obtain ⟨x2, h3, e4, hF⟩ := bnd_out hF
  refine ab_callVd X S e6 (c_X2_product l D cA sz e4) rfl (by decide) mi_X2_product lm_X6_119 li_yX2_product ls_yX2_product (As := [.double p3, .double p4]) (rest := []) rfl ⟨by decide, by decide⟩ ⟨(by decide), (by decide)⟩ hl.1 rfl (by simp [ab_cat, ab_cI, ab_cJ, ab_cD, ab_cF]) dX6_arrive_8 (fun H1 locs1 S => ?_)
  refine lv_dstore (lv' := [(8, .double x2), (0, va_rf (some this)), (1, va_rf p0), (2, .int p1), (3, va_rf p2), (4, .double p3), (6, .double p4)]) X.1 X.2.1 dX6_arrive_11 hl (by decide) (by simp [ab_cat, ab_cI, ab_cJ, ab_cD, ab_cF]) (fun ls hl => ?_)
  refine ab_aload_n X dX6_arrive_13 rfl (lv_at hl 1 rfl) ?_
  refine ab_getR X S hF fi_6_0 lf_X6_9 dX6_arrive_14 (fun x7 hF => ?_)
  refine ab_aload_n X dX6_arrive_17 rfl (lv_at hl 1 rfl) ?_
  refine ab_getR X S hF fi_6_0 lf_X6_9 dX6_arrive_18 (fun x8 hF => ?_)
  refine ab_aload_n X dX6_arrive_21 rfl (lv_at hl 4 rfl) ?_
  refine lv_iload_n X.1 X.2.1 dX6_arrive_22 rfl (lv_at hl 3 rfl) ?_
  obtain ⟨a12, e13, hF⟩ := bind_out hF
  obtain ⟨x9, h10, e11, hF⟩ := bnd_out hF
  refine ab_callVd X S e13 (c_X2_read l D cA sz e11) rfl (by decide) mi_X2_read lm_X6_123 li_yX2_read ls_yX2_read (As := [va_rf p2, .int p1]) (rest := [va_rf x7]) rfl ⟨by decide, by decide⟩ ⟨(by decide), (by decide)⟩ hl.1 rfl (by simp [ab_cat, ab_cI, ab_cJ, ab_cD, ab_cF]) dX6_arrive_23 (fun H1 locs1 S => ?_)
  refine lv_dload X.1 X.2.1 dX6_arrive_26 (lv_at hl 0 rfl) ?_
  obtain ⟨a17, e18, hF⟩ := bind_out hF
  obtain ⟨x14, h15, e16, hF⟩ := bnd_out hF
  refine ab_callVd X S e18 (c_X2_sum l D cA sz e16) rfl (by decide) mi_X2_sum lm_X6_127 li_yX2_sum ls_yX2_sum (As := [.double x9, .double x2]) (rest := []) rfl ⟨by decide, by decide⟩ ⟨(by decide), (by decide)⟩ hl.1 rfl (by simp [ab_cat, ab_cI, ab_cJ, ab_cD, ab_cF]) dX6_arrive_28 (fun H1 locs1 S => ?_)
  refine lv_dstore (lv' := [(10, .double x14), (8, .double x2), (0, va_rf (some this)), (1, va_rf p0), (2, .int p1), (3, va_rf p2), (4, .double p3), (6, .double p4)]) X.1 X.2.1 dX6_arrive_31 hl (by decide) (by simp [ab_cat, ab_cI, ab_cJ, ab_cD, ab_cF]) (fun ls hl => ?_)
  refine ab_aload_n X dX6_arrive_33 rfl (lv_at hl 3 rfl) ?_
  refine lv_iload_n X.1 X.2.1 dX6_arrive_34 rfl (lv_at hl 4 rfl) ?_
  refine lv_dload X.1 X.2.1 dX6_arrive_35 (lv_at hl 0 rfl) ?_
  refine ab_aload_n X dX6_arrive_37 rfl (lv_at hl 2 rfl) ?_
  refine ab_getR X S hF fi_6_0 lf_X6_9 dX6_arrive_38 (fun x19 hF => ?_)
  refine ab_getI X S hF fi_2_1 lf_X6_130 dX6_arrive_41 (fun x20 hF => ?_)
  refine ab_aload_n X dX6_arrive_44 rfl (lv_at hl 2 rfl) ?_
  refine ab_getR X S hF fi_6_1 lf_X6_40 dX6_arrive_45 (fun x21 hF => ?_)
  refine lv_iload_n X.1 X.2.1 dX6_arrive_48 rfl (lv_at hl 4 rfl) ?_
  obtain ⟨a25, e26, hF⟩ := bind_out hF
  obtain ⟨x22, h23, e24, hF⟩ := bnd_out hF
  refine ab_callVi X S e26 (c_X1_isNarrow l D cA sz e24) rfl (by decide) mi_X1_isNarrow lm_X6_134 li_yX1_isNarrow ls_yX1_isNarrow (As := [.int p1]) (rest := [.int x20, .double x14, .int p1, va_rf p0]) rfl ⟨by decide, by decide⟩ ⟨(by decide), (by decide)⟩ hl.1 rfl (by simp [ab_cat, ab_cI, ab_cJ, ab_cD, ab_cF]) dX6_arrive_49 (fun H1 locs1 S => ?_)
  obtain ⟨a30, e31, hF⟩ := bind_out hF
  obtain ⟨x27, h28, e29, hF⟩ := bnd_out hF
  refine ab_callVv X S e31 (c_X3_put l D cA sz e29) rfl (by decide) mi_X3_put lm_X6_137 li_yX3_put ls_yX3_put (As := [.int p1, .double x14, .int x20, .int x22]) (rest := []) rfl ⟨by decide, by decide⟩ ⟨(by decide), (by decide)⟩ hl.1 rfl (by simp [ab_cat, ab_cI, ab_cJ, ab_cD, ab_cF]) dX6_arrive_52 (fun H1 locs1 S => ?_)
  exact ab_vret X S hr hF dX6_arrive_55
def f_X6_move_3  : Nat → Option Nat → Option Nat → UInt64 → Int32 → Int32 → Hp → Option (Unit × Hp)
  | 0, _, _, _, _, _, _ => none
  | n + 1, v0, v1, v2, v4, v5, h => (getR h v0 6 1).bind fun x1 =>
    (getI h x1 1 1).bind fun x2 =>
    if x2 ≤ v5 then
      some ((), h)
    else
      (getR h v0 6 0).bind fun x4 =>
      (ab_ck h x4 (2, 0)).bind fun a8 =>
      bnd (f_X2_begin a8 h) fun _ h6 =>
      (getR h6 v0 6 6).bind fun x10 =>
      (getR h6 v0 6 9).bind fun x11 =>
      (aldR h6 x11 14 v4).bind fun x12 =>
      (getR h6 x12 3 0).bind fun x13 =>
      (aldD h6 x13 v5).bind fun x14 =>
      (ab_ck h6 v0 (6, 0)).bind fun a18 =>
      bnd (f_X6_arrive a18 v1 v5 x10 v2 x14 h6) fun _ h16 =>
      f_X6_move_3 n v0 v1 v2 v4 (v5 + 1) h16
set_option maxHeartbeats 4000000 in
set_option maxRecDepth 100000 in
theorem w_X6_move_3 {p : Program} {l : Launch} {e : Env} {s : State} {m : MethodId} {args : Array Value} {below : List Frame} {meth : Method} {c : Code} {D : va_G} {cA : Nat → ClassId} {sz : Nat}  {hh : Hp}  (X : ab_X p s m args meth c cX6_move 6 RX6 D cA sz) (hr : meth.sig.returnType = none)  (n : Nat) : ∀ (v0 : Option Nat) (v1 : Option Nat) (v2 : UInt64) (v4 : Int32) (v5 : Int32) (h : Hp) (H : Heap) (locs : List Loc) (ls : Array Slot), ab_H D cA sz h s H locs → lv_has ls 6 [(0, va_rf v0), (1, va_rf v1), (2, .double v2), (4, .int v4), (5, .int v5)] → f_X6_move_3 n v0 v1 v2 v4 v5 h = some ((), hh) → W p l e (ab_rm 2 0 0) s m args below meth c H locs 0 0 (MQ below (ab_Q D cA sz none hh) args s 0 0 (fun q => sz ≤ q)) (F0 m 3 ls []) := by
  induction n with
  | zero => intro v0 v1 v2 v4 v5 h H locs ls S hl hF; cases hF
  | succ n ih =>
    intro v0 v1 v2 v4 v5 h H locs ls S hl hF
    rw [f_X6_move_3] at hF
    refine lv_iload X.1 X.2.1 dX6_move_3 (lv_at hl 4 rfl) ?_
    refine ab_aload_n X dX6_move_5 rfl (lv_at hl 0 rfl) ?_
    refine ab_getR X S hF fi_6_1 lf_X6_40 dX6_move_6 (fun x1 hF => ?_)
    refine ab_getI X S hF fi_1_1 lf_X6_95 dX6_move_9 (fun x2 hF => ?_)
    refine lv_icmp_ge (tgt := 53) X.1 X.2.1 dX6_move_12 (by decide) (fun c3 => ?_) (fun c3 => ?_)
    · have hF := ab_pos c3 hF
      exact ab_vret X S hr hF dX6_move_53
    · have hF := ab_neg c3 hF
      refine ab_aload_n X dX6_move_15 rfl (lv_at hl 0 rfl) ?_
      refine ab_getR X S hF fi_6_0 lf_X6_9 dX6_move_16 (fun x4 hF => ?_)
      obtain ⟨a8, e9, hF⟩ := bind_out hF
      obtain ⟨x5, h6, e7, hF⟩ := bnd_out hF
      refine ab_callVv X S e9 (c_X2_begin l D cA sz e7) rfl (by decide) mi_X2_begin lm_X6_141 li_yX2_begin ls_yX2_begin (As := []) (rest := []) rfl ⟨by decide, by decide⟩ ⟨(by decide), (by decide)⟩ hl.1 rfl (by simp [ab_cat, ab_cI, ab_cJ, ab_cD, ab_cF]) dX6_move_19 (fun H1 locs1 S => ?_)
      refine ab_aload_n X dX6_move_22 rfl (lv_at hl 0 rfl) ?_
      refine ab_aload_n X dX6_move_23 rfl (lv_at hl 1 rfl) ?_
      refine lv_iload X.1 X.2.1 dX6_move_24 (lv_at hl 4 rfl) ?_
      refine ab_aload_n X dX6_move_26 rfl (lv_at hl 0 rfl) ?_
      refine ab_getR X S hF fi_6_6 lf_X6_20 dX6_move_27 (fun x10 hF => ?_)
      refine lv_dload_n X.1 X.2.1 dX6_move_30 rfl (lv_at hl 2 rfl) ?_
      refine ab_aload_n X dX6_move_31 rfl (lv_at hl 0 rfl) ?_
      refine ab_getR X S hF fi_6_9 lf_X6_30 dX6_move_32 (fun x11 hF => ?_)
      refine lv_iload X.1 X.2.1 dX6_move_35 (lv_at hl 3 rfl) ?_
      refine ab_aldR X S hF rfl (by decide) dX6_move_37 (fun x12 hF => ?_)
      refine ab_getR X S hF fi_3_0 lf_X6_144 dX6_move_38 (fun x13 hF => ?_)
      refine lv_iload X.1 X.2.1 dX6_move_41 (lv_at hl 4 rfl) ?_
      refine ab_aldD X S hF dX6_move_43 (fun x14 hF => ?_)
      obtain ⟨a18, e19, hF⟩ := bind_out hF
      obtain ⟨x15, h16, e17, hF⟩ := bnd_out hF
      refine ab_callVv X S e19 (c_X6_arrive l D cA sz e17) rfl (by decide) mi_X6_arrive lm_X6_148 li_yX6_arrive ls_yX6_arrive (As := [va_rf v1, .int v5, va_rf x10, .double v2, .double x14]) (rest := []) rfl ⟨by decide, by decide⟩ ⟨(by decide), (by decide)⟩ hl.1 rfl (by simp [ab_cat, ab_cI, ab_cJ, ab_cD, ab_cF]) dX6_move_44 (fun H1 locs1 S => ?_)
      refine lv_iinc (v := v5 + 1) (lv' := [(5, .int (v5 + 1)), (0, va_rf v0), (1, va_rf v1), (2, .double v2), (4, .int v4)]) X.1 X.2.1 dX6_move_47 hl (k := 4) rfl (by rfl) (by decide) (by simp [ab_cat, ab_cI, ab_cJ, ab_cD, ab_cF]) (fun ls hl => ?_)
      refine lv_goto (tgt := 3) X.1 X.2.1 dX6_move_50 (by decide) ?_
      exact ih _ _ _ _ _ _ _ _ _ S (lv_sub hl [1, 2, 3, 4, 0] rfl) hF
def f_X6_move (this : Nat) (p0 : Option Nat) (p1 : UInt64) (p2 : Int32) (h : Hp) : Option (Unit × Hp) :=
  f_X6_move_3 fuelN (some this) p0 p1 p2 0 h
theorem mi_X6_move : ab_MI yX6_move cX6_move 6 none 3 := ⟨lc_yX6_move, lz_RX6, by decide, by decide, by decide +kernel⟩
set_option maxHeartbeats 4000000 in
set_option maxRecDepth 100000 in
theorem c_X6_move (l : Launch) (D : va_G) (cA : Nat → ClassId) (sz : Nat) {this : Nat} {p0 : Option Nat} {p1 : UInt64} {p2 : Int32} {h hh : Hp}  (hF : f_X6_move this p0 p1 p2 h = some ((), hh)) : ab_C l D cA sz yX6_move cX6_move 6 none 2 0 0 [.ref this, va_rf p0, .double p1, .int p2] h none hh := by
  refine Met.ofW (cc := cX6_move) (maxL := 6) (ret := none) (by decide) rfl ?_
  intro p e s m args below meth c s₁ B hml hv
  obtain ⟨rfl, hT, hR⟩ := hv
  have X : ab_X p s m _ meth c cX6_move 6 RX6 D cA sz := (ab_enter B hml hT hR).1
  have S := (ab_enter B hml hT hR).2
  have hr := B.returns
  obtain ⟨ls, hls, hl⟩ := ab_entry m [.ref this, va_rf p0, .double p1, .int p2] 6 (lv := [(0, .ref this), (1, va_rf p0), (2, .double p1), (4, .int p2)]) (by simp [lg_sl, ab_cat, ab_cI, ab_cJ, ab_cD, ab_cF, ab_cA]) (by simp [lv_args, ab_cat, ab_cI, ab_cJ, ab_cD, ab_cF, ab_cA])
  rw [hls]
  have hl : lv_has ls 6 [(0, va_rf (some this)), (1, va_rf p0), (2, .double p1), (4, .int p2)] := hl
  unfold f_X6_move at hF
  show W p l e (ab_rm 2 0 0) s m _ below meth c s.heap [] 0 0 _ _
  refine lv_iconst (v := 0) X.1 X.2.1 dX6_move_0 (by decide) ?_
  refine lv_istore (lv' := [(5, .int 0), (0, va_rf (some this)), (1, va_rf p0), (2, .double p1), (4, .int p2)]) X.1 X.2.1 dX6_move_1 hl (by decide) (by simp [ab_cat, ab_cI, ab_cJ, ab_cD, ab_cF]) (fun ls hl => ?_)
  exact w_X6_move_3 X hr  fuelN _ _ _ _ _ _ _ _ _ S (lv_sub hl [1, 2, 3, 4, 0] rfl) hF
def f_X6_unlikeCount_64 (k_4 : Option Nat → Int32 → Int32 → Hp → Option (Int32 × Hp)) (v0 : Option Nat) (v1 : Int32) (v2 : Int32) (h : Hp) : Option (Int32 × Hp) :=
  k_4 v0 v1 (v2 + 1) h
set_option maxHeartbeats 4000000 in
set_option maxRecDepth 100000 in
theorem w_X6_unlikeCount_64 {p : Program} {l : Launch} {e : Env} {s : State} {m : MethodId} {args : Array Value} {below : List Frame} {meth : Method} {c : Code} {D : va_G} {cA : Nat → ClassId} {sz : Nat} {rr : Int32} {hh : Hp} {k_4 : Option Nat → Int32 → Int32 → Hp → Option (Int32 × Hp)} (X : ab_X p s m args meth c cX6_unlikeCount 3 RX6 D cA sz) (hr : meth.sig.returnType = (some .int)) (hk_4 : ∀ (v0 : Option Nat) (v1 : Int32) (v2 : Int32) (h : Hp) (H : Heap) (locs : List Loc) (ls : Array Slot), ab_H D cA sz h s H locs → lv_has ls 3 [(0, va_rf v0), (1, .int v1), (2, .int v2)] → k_4 v0 v1 v2 h = some (rr, hh) → W p l e (ab_rm 0 0 0) s m args below meth c H locs 0 0 (MQ below (ab_Q D cA sz (some (.int rr)) hh) args s 0 0 (fun q => sz ≤ q)) (F0 m 4 ls [])) {H : Heap} {locs : List Loc} {ls : Array Slot} {v0 : Option Nat} {v1 : Int32} {v2 : Int32} {h : Hp} (S : ab_H D cA sz h s H locs) (hl : lv_has ls 3 [(0, va_rf v0), (1, .int v1), (2, .int v2)]) (hF : f_X6_unlikeCount_64 k_4 v0 v1 v2 h = some (rr, hh)) : W p l e (ab_rm 0 0 0) s m args below meth c H locs 0 0 (MQ below (ab_Q D cA sz (some (.int rr)) hh) args s 0 0 (fun q => sz ≤ q)) (F0 m 64 ls []) := by
  unfold f_X6_unlikeCount_64 at hF
  refine lv_iinc (v := v2 + 1) (lv' := [(2, .int (v2 + 1)), (0, va_rf v0), (1, .int v1)]) X.1 X.2.1 dX6_unlikeCount_64 hl (k := 2) rfl (by rfl) (by decide) (by simp [ab_cat, ab_cI, ab_cJ, ab_cD, ab_cF]) (fun ls hl => ?_)
  refine lv_goto (tgt := 4) X.1 X.2.1 dX6_unlikeCount_67 (by decide) ?_
  exact hk_4 _ _ _ _ _ _ _ S (lv_sub hl [1, 2, 0] rfl) hF
def f_X6_unlikeCount_61 (k_4 : Option Nat → Int32 → Int32 → Hp → Option (Int32 × Hp)) (v0 : Option Nat) (v1 : Int32) (v2 : Int32) (h : Hp) : Option (Int32 × Hp) :=
  f_X6_unlikeCount_64 k_4 v0 (v1 + 1) v2 h
set_option maxHeartbeats 4000000 in
set_option maxRecDepth 100000 in
theorem w_X6_unlikeCount_61 {p : Program} {l : Launch} {e : Env} {s : State} {m : MethodId} {args : Array Value} {below : List Frame} {meth : Method} {c : Code} {D : va_G} {cA : Nat → ClassId} {sz : Nat} {rr : Int32} {hh : Hp} {k_4 : Option Nat → Int32 → Int32 → Hp → Option (Int32 × Hp)} (X : ab_X p s m args meth c cX6_unlikeCount 3 RX6 D cA sz) (hr : meth.sig.returnType = (some .int)) (hk_4 : ∀ (v0 : Option Nat) (v1 : Int32) (v2 : Int32) (h : Hp) (H : Heap) (locs : List Loc) (ls : Array Slot), ab_H D cA sz h s H locs → lv_has ls 3 [(0, va_rf v0), (1, .int v1), (2, .int v2)] → k_4 v0 v1 v2 h = some (rr, hh) → W p l e (ab_rm 0 0 0) s m args below meth c H locs 0 0 (MQ below (ab_Q D cA sz (some (.int rr)) hh) args s 0 0 (fun q => sz ≤ q)) (F0 m 4 ls [])) {H : Heap} {locs : List Loc} {ls : Array Slot} {v0 : Option Nat} {v1 : Int32} {v2 : Int32} {h : Hp} (S : ab_H D cA sz h s H locs) (hl : lv_has ls 3 [(0, va_rf v0), (1, .int v1), (2, .int v2)]) (hF : f_X6_unlikeCount_61 k_4 v0 v1 v2 h = some (rr, hh)) : W p l e (ab_rm 0 0 0) s m args below meth c H locs 0 0 (MQ below (ab_Q D cA sz (some (.int rr)) hh) args s 0 0 (fun q => sz ≤ q)) (F0 m 61 ls []) := by
  unfold f_X6_unlikeCount_61 at hF
  refine lv_iinc (v := v1 + 1) (lv' := [(1, .int (v1 + 1)), (0, va_rf v0), (2, .int v2)]) X.1 X.2.1 dX6_unlikeCount_61 hl (k := 1) rfl (by rfl) (by decide) (by simp [ab_cat, ab_cI, ab_cJ, ab_cD, ab_cF]) (fun ls hl => ?_)
  exact w_X6_unlikeCount_64 X hr hk_4 S (lv_sub hl [1, 0, 2] rfl) hF
def f_X6_unlikeCount_4  : Nat → Option Nat → Int32 → Int32 → Hp → Option (Int32 × Hp)
  | 0, _, _, _, _ => none
  | n + 1, v0, v1, v2, h => (getR h v0 6 1).bind fun x1 =>
    (getI h x1 1 1).bind fun x2 =>
    if x2 ≤ v2 then
      some (v1, h)
    else
      (getR h v0 6 7).bind fun x4 =>
      (getR h x4 3 1).bind fun x5 =>
      (aldI h x5 12 v2).bind fun x6 =>
      if ¬ x6 = 0 then
        f_X6_unlikeCount_61 (f_X6_unlikeCount_4 n) v0 v1 v2 h
      else
        (getR h v0 6 8).bind fun x8 =>
        (getR h x8 3 1).bind fun x9 =>
        (aldI h x9 12 v2).bind fun x10 =>
        if ¬ x10 = 0 then
          f_X6_unlikeCount_61 (f_X6_unlikeCount_4 n) v0 v1 v2 h
        else
          (getR h v0 6 7).bind fun x12 =>
          (getR h x12 3 0).bind fun x13 =>
          (aldD h x13 v2).bind fun x14 =>
          (getR h v0 6 8).bind fun x15 =>
          (getR h x15 3 0).bind fun x16 =>
          (aldD h x16 v2).bind fun x17 =>
          if (Op.cmpValue (FP.dcmp x14 x17) CmpOp.l) = 0 then
            f_X6_unlikeCount_64 (f_X6_unlikeCount_4 n) v0 v1 v2 h
          else
            f_X6_unlikeCount_61 (f_X6_unlikeCount_4 n) v0 v1 v2 h
set_option maxHeartbeats 4000000 in
set_option maxRecDepth 100000 in
theorem w_X6_unlikeCount_4 {p : Program} {l : Launch} {e : Env} {s : State} {m : MethodId} {args : Array Value} {below : List Frame} {meth : Method} {c : Code} {D : va_G} {cA : Nat → ClassId} {sz : Nat} {rr : Int32} {hh : Hp}  (X : ab_X p s m args meth c cX6_unlikeCount 3 RX6 D cA sz) (hr : meth.sig.returnType = (some .int))  (n : Nat) : ∀ (v0 : Option Nat) (v1 : Int32) (v2 : Int32) (h : Hp) (H : Heap) (locs : List Loc) (ls : Array Slot), ab_H D cA sz h s H locs → lv_has ls 3 [(0, va_rf v0), (1, .int v1), (2, .int v2)] → f_X6_unlikeCount_4 n v0 v1 v2 h = some (rr, hh) → W p l e (ab_rm 0 0 0) s m args below meth c H locs 0 0 (MQ below (ab_Q D cA sz (some (.int rr)) hh) args s 0 0 (fun q => sz ≤ q)) (F0 m 4 ls []) := by
  induction n with
  | zero => intro v0 v1 v2 h H locs ls S hl hF; cases hF
  | succ n ih =>
    intro v0 v1 v2 h H locs ls S hl hF
    rw [f_X6_unlikeCount_4] at hF
    refine lv_iload_n X.1 X.2.1 dX6_unlikeCount_4 rfl (lv_at hl 2 rfl) ?_
    refine ab_aload_n X dX6_unlikeCount_5 rfl (lv_at hl 0 rfl) ?_
    refine ab_getR X S hF fi_6_1 lf_X6_40 dX6_unlikeCount_6 (fun x1 hF => ?_)
    refine ab_getI X S hF fi_1_1 lf_X6_95 dX6_unlikeCount_9 (fun x2 hF => ?_)
    refine lv_icmp_ge (tgt := 70) X.1 X.2.1 dX6_unlikeCount_12 (by decide) (fun c3 => ?_) (fun c3 => ?_)
    · have hF := ab_pos c3 hF
      refine lv_iload_n X.1 X.2.1 dX6_unlikeCount_70 rfl (lv_at hl 1 rfl) ?_
      exact ab_iret X S hr hF dX6_unlikeCount_71
    · have hF := ab_neg c3 hF
      refine ab_aload_n X dX6_unlikeCount_15 rfl (lv_at hl 0 rfl) ?_
      refine ab_getR X S hF fi_6_7 lf_X6_24 dX6_unlikeCount_16 (fun x4 hF => ?_)
      refine ab_getR X S hF fi_3_1 lf_X6_175 dX6_unlikeCount_19 (fun x5 hF => ?_)
      refine lv_iload_n X.1 X.2.1 dX6_unlikeCount_22 rfl (lv_at hl 2 rfl) ?_
      refine ab_aldZ X S hF dX6_unlikeCount_23 (fun x6 hF => ?_)
      refine lv_if_ne (tgt := 61) X.1 X.2.1 dX6_unlikeCount_24 (by decide) (fun c7 => ?_) (fun c7 => ?_)
      · have hF := ab_pos c7 hF
        exact w_X6_unlikeCount_61 X hr ih S (lv_sub hl [0, 1, 2] rfl) hF
      · have hF := ab_neg (fun q => q c7) hF
        refine ab_aload_n X dX6_unlikeCount_27 rfl (lv_at hl 0 rfl) ?_
        refine ab_getR X S hF fi_6_8 lf_X6_27 dX6_unlikeCount_28 (fun x8 hF => ?_)
        refine ab_getR X S hF fi_3_1 lf_X6_175 dX6_unlikeCount_31 (fun x9 hF => ?_)
        refine lv_iload_n X.1 X.2.1 dX6_unlikeCount_34 rfl (lv_at hl 2 rfl) ?_
        refine ab_aldZ X S hF dX6_unlikeCount_35 (fun x10 hF => ?_)
        refine lv_if_ne (tgt := 61) X.1 X.2.1 dX6_unlikeCount_36 (by decide) (fun c11 => ?_) (fun c11 => ?_)
        · have hF := ab_pos c11 hF
          exact w_X6_unlikeCount_61 X hr ih S (lv_sub hl [0, 1, 2] rfl) hF
        · have hF := ab_neg (fun q => q c11) hF
          refine ab_aload_n X dX6_unlikeCount_39 rfl (lv_at hl 0 rfl) ?_
          refine ab_getR X S hF fi_6_7 lf_X6_24 dX6_unlikeCount_40 (fun x12 hF => ?_)
          refine ab_getR X S hF fi_3_0 lf_X6_144 dX6_unlikeCount_43 (fun x13 hF => ?_)
          refine lv_iload_n X.1 X.2.1 dX6_unlikeCount_46 rfl (lv_at hl 2 rfl) ?_
          refine ab_aldD X S hF dX6_unlikeCount_47 (fun x14 hF => ?_)
          refine ab_aload_n X dX6_unlikeCount_48 rfl (lv_at hl 0 rfl) ?_
          refine ab_getR X S hF fi_6_8 lf_X6_27 dX6_unlikeCount_49 (fun x15 hF => ?_)
          refine ab_getR X S hF fi_3_0 lf_X6_144 dX6_unlikeCount_52 (fun x16 hF => ?_)
          refine lv_iload_n X.1 X.2.1 dX6_unlikeCount_55 rfl (lv_at hl 2 rfl) ?_
          refine ab_aldD X S hF dX6_unlikeCount_56 (fun x17 hF => ?_)
          refine lv_dcmp X.1 X.2.1 dX6_unlikeCount_57 ?_
          refine lv_if_eq (tgt := 64) X.1 X.2.1 dX6_unlikeCount_58 (by decide) (fun c18 => ?_) (fun c18 => ?_)
          · have hF := ab_pos c18 hF
            exact w_X6_unlikeCount_64 X hr ih S (lv_sub hl [0, 1, 2] rfl) hF
          · have hF := ab_neg c18 hF
            exact w_X6_unlikeCount_61 X hr ih S (lv_sub hl [0, 1, 2] rfl) hF
def f_X6_unlikeCount (this : Nat) (h : Hp) : Option (Int32 × Hp) :=
  f_X6_unlikeCount_4 fuelN (some this) 0 0 h
theorem mi_X6_unlikeCount : ab_MI yX6_unlikeCount cX6_unlikeCount 3 (some .int) 0 := ⟨lc_yX6_unlikeCount, lz_RX6, by decide, by decide, by decide +kernel⟩
set_option maxHeartbeats 4000000 in
set_option maxRecDepth 100000 in
theorem c_X6_unlikeCount (l : Launch) (D : va_G) (cA : Nat → ClassId) (sz : Nat) {this : Nat} {h hh : Hp} {rr : Int32} (hF : f_X6_unlikeCount this h = some (rr, hh)) : ab_C l D cA sz yX6_unlikeCount cX6_unlikeCount 3 (some .int) 0 0 0 [.ref this] h (some (.int rr)) hh := by
  refine Met.ofW (cc := cX6_unlikeCount) (maxL := 3) (ret := (some .int)) (by decide) rfl ?_
  intro p e s m args below meth c s₁ B hml hv
  obtain ⟨rfl, hT, hR⟩ := hv
  have X : ab_X p s m _ meth c cX6_unlikeCount 3 RX6 D cA sz := (ab_enter B hml hT hR).1
  have S := (ab_enter B hml hT hR).2
  have hr := B.returns
  obtain ⟨ls, hls, hl⟩ := ab_entry m [.ref this] 3 (lv := [(0, .ref this)]) (by simp [lg_sl, ab_cat, ab_cI, ab_cJ, ab_cD, ab_cF, ab_cA]) (by simp [lv_args, ab_cat, ab_cI, ab_cJ, ab_cD, ab_cF, ab_cA])
  rw [hls]
  have hl : lv_has ls 3 [(0, va_rf (some this))] := hl
  unfold f_X6_unlikeCount at hF
  show W p l e (ab_rm 0 0 0) s m _ below meth c s.heap [] 0 0 _ _
  refine lv_iconst (v := 0) X.1 X.2.1 dX6_unlikeCount_0 (by decide) ?_
  refine lv_istore_n (i := 1) (lv' := [(1, .int 0), (0, va_rf (some this))]) X.1 X.2.1 dX6_unlikeCount_1 rfl hl (by decide) (by simp [ab_cat, ab_cI, ab_cJ, ab_cD, ab_cF]) (fun ls hl => ?_)
  refine lv_iconst (v := 0) X.1 X.2.1 dX6_unlikeCount_2 (by decide) ?_
  refine lv_istore_n (i := 2) (lv' := [(2, .int 0), (1, .int 0), (0, va_rf (some this))]) X.1 X.2.1 dX6_unlikeCount_3 rfl hl (by decide) (by simp [ab_cat, ab_cI, ab_cJ, ab_cD, ab_cF]) (fun ls hl => ?_)
  exact w_X6_unlikeCount_4 X hr  fuelN _ _ _ _ _ _ _ S (lv_sub hl [2, 1, 0] rfl) hF
def f_X6_blend (this : Nat) (p0 : Int32) (p1 : UInt64) (h : Hp) : Option (Unit × Hp) :=
  if ¬ (Op.cmpValue (FP.dcmp p1 FP.dconst0) CmpOp.l) = 0 then
    if ¬ (Op.cmpValue (FP.dcmp p1 FP.dconst1) CmpOp.l) = 0 then
      (fop (FP.dsub FP.dconst1 p1)).bind fun x3 =>
      (getR h (some this) 6 0).bind fun x4 =>
      (ab_ck h x4 (2, 0)).bind fun a8 =>
      bnd (f_X2_begin a8 h) fun _ h6 =>
      (getR h6 (some this) 6 0).bind fun x10 =>
      (getR h6 (some this) 6 0).bind fun x11 =>
      (fop (FP.dmul 4611686018427387904 p1)).bind fun x12 =>
      (fop (FP.dadd FP.dconst1 x12)).bind fun x13 =>
      (getR h6 (some this) 6 0).bind fun x14 =>
      (getR h6 (some this) 6 6).bind fun x15 =>
      (ab_ck h6 x14 (2, 0)).bind fun a19 =>
      bnd (f_X2_read a19 x15 p0 h6) fun x16 h17 =>
      (ab_ck h17 x11 (2, 0)).bind fun a24 =>
      bnd (f_X2_product a24 x13 x16 h17) fun x21 h22 =>
      (getR h22 (some this) 6 0).bind fun x26 =>
      (getD h22 (some this) 6 4).bind fun x27 =>
      (fop (FP.dmul p1 x27)).bind fun x28 =>
      (getR h22 (some this) 6 0).bind fun x29 =>
      (getR h22 (some this) 6 9).bind fun x30 =>
      (aldR h22 x30 14 0).bind fun x31 =>
      (ab_ck h22 x29 (2, 0)).bind fun a35 =>
      bnd (f_X2_read a35 x31 p0 h22) fun x32 h33 =>
      (ab_ck h33 x26 (2, 0)).bind fun a40 =>
      bnd (f_X2_product a40 x28 x32 h33) fun x37 h38 =>
      (ab_ck h38 x10 (2, 0)).bind fun a45 =>
      bnd (f_X2_sum a45 x21 x37 h38) fun x42 h43 =>
      (getR h43 (some this) 6 0).bind fun x47 =>
      (getR h43 (some this) 6 0).bind fun x48 =>
      (fop (FP.dmul 4611686018427387904 x3)).bind fun x49 =>
      (fop (FP.dadd FP.dconst1 x49)).bind fun x50 =>
      (getR h43 (some this) 6 0).bind fun x51 =>
      (getR h43 (some this) 6 8).bind fun x52 =>
      (ab_ck h43 x51 (2, 0)).bind fun a56 =>
      bnd (f_X2_read a56 x52 p0 h43) fun x53 h54 =>
      (ab_ck h54 x48 (2, 0)).bind fun a61 =>
      bnd (f_X2_product a61 x50 x53 h54) fun x58 h59 =>
      (getR h59 (some this) 6 0).bind fun x63 =>
      (getD h59 (some this) 6 4).bind fun x64 =>
      (fop (FP.dmul x3 x64)).bind fun x65 =>
      (getR h59 (some this) 6 0).bind fun x66 =>
      (getR h59 (some this) 6 11).bind fun x67 =>
      (ab_ck h59 x66 (2, 0)).bind fun a71 =>
      bnd (f_X2_read a71 x67 p0 h59) fun x68 h69 =>
      (ab_ck h69 x63 (2, 0)).bind fun a76 =>
      bnd (f_X2_product a76 x65 x68 h69) fun x73 h74 =>
      (ab_ck h74 x47 (2, 0)).bind fun a81 =>
      bnd (f_X2_difference a81 x58 x73 h74) fun x78 h79 =>
      (getR h79 (some this) 6 0).bind fun x83 =>
      (getR h79 (some this) 6 0).bind fun x84 =>
      (fop (FP.dmul x3 x3)).bind fun x85 =>
      (ab_ck h79 x84 (2, 0)).bind fun a89 =>
      bnd (f_X2_product a89 x85 x42 h79) fun x86 h87 =>
      (getR h87 (some this) 6 0).bind fun x91 =>
      (fop (FP.dmul p1 p1)).bind fun x92 =>
      (ab_ck h87 x91 (2, 0)).bind fun a96 =>
      bnd (f_X2_product a96 x92 x78 h87) fun x93 h94 =>
      (ab_ck h94 x83 (2, 0)).bind fun a101 =>
      bnd (f_X2_sum a101 x86 x93 h94) fun x98 h99 =>
      (getR h99 (some this) 6 7).bind fun x103 =>
      (getR h99 (some this) 6 0).bind fun x104 =>
      (getI h99 x104 2 1).bind fun x105 =>
      (getR h99 (some this) 6 1).bind fun x106 =>
      (ab_ck h99 x106 (1, 0)).bind fun a110 =>
      bnd (f_X1_isNarrow a110 p0 h99) fun x107 h108 =>
      (ab_ck h108 x103 (3, 0)).bind fun a115 =>
      bnd (f_X3_put a115 p0 x98 x105 x107 h108) fun _ h113 =>
      some ((), h113)
    else
      (getR h (some this) 6 7).bind fun x117 =>
      (getR h (some this) 6 8).bind fun x118 =>
      (ab_ck h x117 (3, 0)).bind fun a122 =>
      bnd (f_X3_copyOne a122 p0 x118 h) fun _ h120 =>
      some ((), h120)
  else
    (getR h (some this) 6 7).bind fun x124 =>
    (getR h (some this) 6 6).bind fun x125 =>
    (ab_ck h x124 (3, 0)).bind fun a129 =>
    bnd (f_X3_copyOne a129 p0 x125 h) fun _ h127 =>
    some ((), h127)
theorem mi_X6_blend : ab_MI yX6_blend cX6_blend 12 none 2 := ⟨lc_yX6_blend, lz_RX6, by decide, by decide, by decide +kernel⟩
set_option maxHeartbeats 4000000 in
set_option maxRecDepth 100000 in
theorem c_X6_blend (l : Launch) (D : va_G) (cA : Nat → ClassId) (sz : Nat) {this : Nat} {p0 : Int32} {p1 : UInt64} {h hh : Hp}  (hF : f_X6_blend this p0 p1 h = some ((), hh)) : ab_C l D cA sz yX6_blend cX6_blend 12 none 1 0 0 [.ref this, .int p0, .double p1] h none hh := by
  refine Met.ofW (cc := cX6_blend) (maxL := 12) (ret := none) (by decide) rfl ?_
  intro p e s m args below meth c s₁ B hml hv
  obtain ⟨rfl, hT, hR⟩ := hv
  have X : ab_X p s m _ meth c cX6_blend 12 RX6 D cA sz := (ab_enter B hml hT hR).1
  have S := (ab_enter B hml hT hR).2
  have hr := B.returns
  obtain ⟨ls, hls, hl⟩ := ab_entry m [.ref this, .int p0, .double p1] 12 (lv := [(0, .ref this), (1, .int p0), (2, .double p1)]) (by simp [lg_sl, ab_cat, ab_cI, ab_cJ, ab_cD, ab_cF, ab_cA]) (by simp [lv_args, ab_cat, ab_cI, ab_cJ, ab_cD, ab_cF, ab_cA])
  rw [hls]
  have hl : lv_has ls 12 [(0, va_rf (some this)), (1, .int p0), (2, .double p1)] := hl
  unfold f_X6_blend at hF
  show W p l e (ab_rm 1 0 0) s m _ below meth c s.heap [] 0 0 _ _
  refine lv_dload_n X.1 X.2.1 dX6_blend_0 rfl (lv_at hl 2 rfl) ?_
  refine lv_dconst0 X.1 X.2.1 dX6_blend_1 ?_
  refine lv_dcmp X.1 X.2.1 dX6_blend_2 ?_
  refine lv_if_ne (tgt := 19) X.1 X.2.1 dX6_blend_3 (by decide) (fun c1 => ?_) (fun c1 => ?_)
  · have hF := ab_pos c1 hF
    refine lv_dload_n X.1 X.2.1 dX6_blend_19 rfl (lv_at hl 2 rfl) ?_
    refine lv_dconst1 X.1 X.2.1 dX6_blend_20 ?_
    refine lv_dcmp X.1 X.2.1 dX6_blend_21 ?_
    refine lv_if_ne (tgt := 38) X.1 X.2.1 dX6_blend_22 (by decide) (fun c2 => ?_) (fun c2 => ?_)
    · have hF := ab_pos c2 hF
      refine lv_dconst1 X.1 X.2.1 dX6_blend_38 ?_
      refine lv_dload_n X.1 X.2.1 dX6_blend_39 rfl (lv_at hl 2 rfl) ?_
      obtain ⟨x3, ev, ne, hF⟩ := ab_fopx hF
      refine lv_dsub X.1 X.2.1 dX6_blend_40 ne ?_
      rw [ev]
      refine lv_dstore (lv' := [(4, .double x3), (0, va_rf (some this)), (1, .int p0), (2, .double p1)]) X.1 X.2.1 dX6_blend_41 hl (by decide) (by simp [ab_cat, ab_cI, ab_cJ, ab_cD, ab_cF]) (fun ls hl => ?_)
      refine ab_aload_n X dX6_blend_43 rfl (lv_at hl 1 rfl) ?_
      refine ab_getR X S hF fi_6_0 lf_X6_9 dX6_blend_44 (fun x4 hF => ?_)
      obtain ⟨a8, e9, hF⟩ := bind_out hF
      obtain ⟨x5, h6, e7, hF⟩ := bnd_out hF
      refine ab_callVv X S e9 (c_X2_begin l D cA sz e7) rfl (by decide) mi_X2_begin lm_X6_141 li_yX2_begin ls_yX2_begin (As := []) (rest := []) rfl ⟨by decide, by decide⟩ ⟨(by decide), (by decide)⟩ hl.1 rfl (by simp [ab_cat, ab_cI, ab_cJ, ab_cD, ab_cF]) dX6_blend_47 (fun H1 locs1 S => ?_)
      refine ab_aload_n X dX6_blend_50 rfl (lv_at hl 1 rfl) ?_
      refine ab_getR X S hF fi_6_0 lf_X6_9 dX6_blend_51 (fun x10 hF => ?_)
      refine ab_aload_n X dX6_blend_54 rfl (lv_at hl 1 rfl) ?_
      refine ab_getR X S hF fi_6_0 lf_X6_9 dX6_blend_55 (fun x11 hF => ?_)
      refine lv_dconst1 X.1 X.2.1 dX6_blend_58 ?_
      refine lv_ldc2d (v := 4611686018427387904) X.1 X.2.1 X.2.2.2.1 (X.2.2.2.2.1 _ ld_X6_152) dX6_blend_59 ?_
      refine lv_dload_n X.1 X.2.1 dX6_blend_62 rfl (lv_at hl 3 rfl) ?_
      obtain ⟨x12, ev, ne, hF⟩ := ab_fopx hF
      refine lv_dmul X.1 X.2.1 dX6_blend_63 ne ?_
      rw [ev]
      obtain ⟨x13, ev, ne, hF⟩ := ab_fopx hF
      refine lv_dadd X.1 X.2.1 dX6_blend_64 ne ?_
      rw [ev]
      refine ab_aload_n X dX6_blend_65 rfl (lv_at hl 1 rfl) ?_
      refine ab_getR X S hF fi_6_0 lf_X6_9 dX6_blend_66 (fun x14 hF => ?_)
      refine ab_aload_n X dX6_blend_69 rfl (lv_at hl 1 rfl) ?_
      refine ab_getR X S hF fi_6_6 lf_X6_20 dX6_blend_70 (fun x15 hF => ?_)
      refine lv_iload_n X.1 X.2.1 dX6_blend_73 rfl (lv_at hl 2 rfl) ?_
      obtain ⟨a19, e20, hF⟩ := bind_out hF
      obtain ⟨x16, h17, e18, hF⟩ := bnd_out hF
      refine ab_callVd X S e20 (c_X2_read l D cA sz e18) rfl (by decide) mi_X2_read lm_X6_123 li_yX2_read ls_yX2_read (As := [va_rf x15, .int p0]) (rest := [.double x13, va_rf x11, va_rf x10]) rfl ⟨by decide, by decide⟩ ⟨(by decide), (by decide)⟩ hl.1 rfl (by simp [ab_cat, ab_cI, ab_cJ, ab_cD, ab_cF]) dX6_blend_74 (fun H1 locs1 S => ?_)
      obtain ⟨a24, e25, hF⟩ := bind_out hF
      obtain ⟨x21, h22, e23, hF⟩ := bnd_out hF
      refine ab_callVd X S e25 (c_X2_product l D cA sz e23) rfl (by decide) mi_X2_product lm_X6_119 li_yX2_product ls_yX2_product (As := [.double x13, .double x16]) (rest := [va_rf x10]) rfl ⟨by decide, by decide⟩ ⟨(by decide), (by decide)⟩ hl.1 rfl (by simp [ab_cat, ab_cI, ab_cJ, ab_cD, ab_cF]) dX6_blend_77 (fun H1 locs1 S => ?_)
      refine ab_aload_n X dX6_blend_80 rfl (lv_at hl 1 rfl) ?_
      refine ab_getR X S hF fi_6_0 lf_X6_9 dX6_blend_81 (fun x26 hF => ?_)
      refine lv_dload_n X.1 X.2.1 dX6_blend_84 rfl (lv_at hl 3 rfl) ?_
      refine ab_aload_n X dX6_blend_85 rfl (lv_at hl 1 rfl) ?_
      refine ab_getD X S hF fi_6_4 lf_X6_52 dX6_blend_86 (fun x27 hF => ?_)
      obtain ⟨x28, ev, ne, hF⟩ := ab_fopx hF
      refine lv_dmul X.1 X.2.1 dX6_blend_89 ne ?_
      rw [ev]
      refine ab_aload_n X dX6_blend_90 rfl (lv_at hl 1 rfl) ?_
      refine ab_getR X S hF fi_6_0 lf_X6_9 dX6_blend_91 (fun x29 hF => ?_)
      refine ab_aload_n X dX6_blend_94 rfl (lv_at hl 1 rfl) ?_
      refine ab_getR X S hF fi_6_9 lf_X6_30 dX6_blend_95 (fun x30 hF => ?_)
      refine lv_iconst (v := 0) X.1 X.2.1 dX6_blend_98 (by decide) ?_
      refine ab_aldR X S hF rfl (by decide) dX6_blend_99 (fun x31 hF => ?_)
      refine lv_iload_n X.1 X.2.1 dX6_blend_100 rfl (lv_at hl 2 rfl) ?_
      obtain ⟨a35, e36, hF⟩ := bind_out hF
      obtain ⟨x32, h33, e34, hF⟩ := bnd_out hF
      refine ab_callVd X S e36 (c_X2_read l D cA sz e34) rfl (by decide) mi_X2_read lm_X6_123 li_yX2_read ls_yX2_read (As := [va_rf x31, .int p0]) (rest := [.double x28, va_rf x26, .double x21, va_rf x10]) rfl ⟨by decide, by decide⟩ ⟨(by decide), (by decide)⟩ hl.1 rfl (by simp [ab_cat, ab_cI, ab_cJ, ab_cD, ab_cF]) dX6_blend_101 (fun H1 locs1 S => ?_)
      obtain ⟨a40, e41, hF⟩ := bind_out hF
      obtain ⟨x37, h38, e39, hF⟩ := bnd_out hF
      refine ab_callVd X S e41 (c_X2_product l D cA sz e39) rfl (by decide) mi_X2_product lm_X6_119 li_yX2_product ls_yX2_product (As := [.double x28, .double x32]) (rest := [.double x21, va_rf x10]) rfl ⟨by decide, by decide⟩ ⟨(by decide), (by decide)⟩ hl.1 rfl (by simp [ab_cat, ab_cI, ab_cJ, ab_cD, ab_cF]) dX6_blend_104 (fun H1 locs1 S => ?_)
      obtain ⟨a45, e46, hF⟩ := bind_out hF
      obtain ⟨x42, h43, e44, hF⟩ := bnd_out hF
      refine ab_callVd X S e46 (c_X2_sum l D cA sz e44) rfl (by decide) mi_X2_sum lm_X6_127 li_yX2_sum ls_yX2_sum (As := [.double x21, .double x37]) (rest := []) rfl ⟨by decide, by decide⟩ ⟨(by decide), (by decide)⟩ hl.1 rfl (by simp [ab_cat, ab_cI, ab_cJ, ab_cD, ab_cF]) dX6_blend_107 (fun H1 locs1 S => ?_)
      refine lv_dstore (lv' := [(6, .double x42), (4, .double x3), (0, va_rf (some this)), (1, .int p0), (2, .double p1)]) X.1 X.2.1 dX6_blend_110 hl (by decide) (by simp [ab_cat, ab_cI, ab_cJ, ab_cD, ab_cF]) (fun ls hl => ?_)
      refine ab_aload_n X dX6_blend_112 rfl (lv_at hl 2 rfl) ?_
      refine ab_getR X S hF fi_6_0 lf_X6_9 dX6_blend_113 (fun x47 hF => ?_)
      refine ab_aload_n X dX6_blend_116 rfl (lv_at hl 2 rfl) ?_
      refine ab_getR X S hF fi_6_0 lf_X6_9 dX6_blend_117 (fun x48 hF => ?_)
      refine lv_dconst1 X.1 X.2.1 dX6_blend_120 ?_
      refine lv_ldc2d (v := 4611686018427387904) X.1 X.2.1 X.2.2.2.1 (X.2.2.2.2.1 _ ld_X6_152) dX6_blend_121 ?_
      refine lv_dload X.1 X.2.1 dX6_blend_124 (lv_at hl 1 rfl) ?_
      obtain ⟨x49, ev, ne, hF⟩ := ab_fopx hF
      refine lv_dmul X.1 X.2.1 dX6_blend_126 ne ?_
      rw [ev]
      obtain ⟨x50, ev, ne, hF⟩ := ab_fopx hF
      refine lv_dadd X.1 X.2.1 dX6_blend_127 ne ?_
      rw [ev]
      refine ab_aload_n X dX6_blend_128 rfl (lv_at hl 2 rfl) ?_
      refine ab_getR X S hF fi_6_0 lf_X6_9 dX6_blend_129 (fun x51 hF => ?_)
      refine ab_aload_n X dX6_blend_132 rfl (lv_at hl 2 rfl) ?_
      refine ab_getR X S hF fi_6_8 lf_X6_27 dX6_blend_133 (fun x52 hF => ?_)
      refine lv_iload_n X.1 X.2.1 dX6_blend_136 rfl (lv_at hl 3 rfl) ?_
      obtain ⟨a56, e57, hF⟩ := bind_out hF
      obtain ⟨x53, h54, e55, hF⟩ := bnd_out hF
      refine ab_callVd X S e57 (c_X2_read l D cA sz e55) rfl (by decide) mi_X2_read lm_X6_123 li_yX2_read ls_yX2_read (As := [va_rf x52, .int p0]) (rest := [.double x50, va_rf x48, va_rf x47]) rfl ⟨by decide, by decide⟩ ⟨(by decide), (by decide)⟩ hl.1 rfl (by simp [ab_cat, ab_cI, ab_cJ, ab_cD, ab_cF]) dX6_blend_137 (fun H1 locs1 S => ?_)
      obtain ⟨a61, e62, hF⟩ := bind_out hF
      obtain ⟨x58, h59, e60, hF⟩ := bnd_out hF
      refine ab_callVd X S e62 (c_X2_product l D cA sz e60) rfl (by decide) mi_X2_product lm_X6_119 li_yX2_product ls_yX2_product (As := [.double x50, .double x53]) (rest := [va_rf x47]) rfl ⟨by decide, by decide⟩ ⟨(by decide), (by decide)⟩ hl.1 rfl (by simp [ab_cat, ab_cI, ab_cJ, ab_cD, ab_cF]) dX6_blend_140 (fun H1 locs1 S => ?_)
      refine ab_aload_n X dX6_blend_143 rfl (lv_at hl 2 rfl) ?_
      refine ab_getR X S hF fi_6_0 lf_X6_9 dX6_blend_144 (fun x63 hF => ?_)
      refine lv_dload X.1 X.2.1 dX6_blend_147 (lv_at hl 1 rfl) ?_
      refine ab_aload_n X dX6_blend_149 rfl (lv_at hl 2 rfl) ?_
      refine ab_getD X S hF fi_6_4 lf_X6_52 dX6_blend_150 (fun x64 hF => ?_)
      obtain ⟨x65, ev, ne, hF⟩ := ab_fopx hF
      refine lv_dmul X.1 X.2.1 dX6_blend_153 ne ?_
      rw [ev]
      refine ab_aload_n X dX6_blend_154 rfl (lv_at hl 2 rfl) ?_
      refine ab_getR X S hF fi_6_0 lf_X6_9 dX6_blend_155 (fun x66 hF => ?_)
      refine ab_aload_n X dX6_blend_158 rfl (lv_at hl 2 rfl) ?_
      refine ab_getR X S hF fi_6_11 lf_X6_37 dX6_blend_159 (fun x67 hF => ?_)
      refine lv_iload_n X.1 X.2.1 dX6_blend_162 rfl (lv_at hl 3 rfl) ?_
      obtain ⟨a71, e72, hF⟩ := bind_out hF
      obtain ⟨x68, h69, e70, hF⟩ := bnd_out hF
      refine ab_callVd X S e72 (c_X2_read l D cA sz e70) rfl (by decide) mi_X2_read lm_X6_123 li_yX2_read ls_yX2_read (As := [va_rf x67, .int p0]) (rest := [.double x65, va_rf x63, .double x58, va_rf x47]) rfl ⟨by decide, by decide⟩ ⟨(by decide), (by decide)⟩ hl.1 rfl (by simp [ab_cat, ab_cI, ab_cJ, ab_cD, ab_cF]) dX6_blend_163 (fun H1 locs1 S => ?_)
      obtain ⟨a76, e77, hF⟩ := bind_out hF
      obtain ⟨x73, h74, e75, hF⟩ := bnd_out hF
      refine ab_callVd X S e77 (c_X2_product l D cA sz e75) rfl (by decide) mi_X2_product lm_X6_119 li_yX2_product ls_yX2_product (As := [.double x65, .double x68]) (rest := [.double x58, va_rf x47]) rfl ⟨by decide, by decide⟩ ⟨(by decide), (by decide)⟩ hl.1 rfl (by simp [ab_cat, ab_cI, ab_cJ, ab_cD, ab_cF]) dX6_blend_166 (fun H1 locs1 S => ?_)
      obtain ⟨a81, e82, hF⟩ := bind_out hF
      obtain ⟨x78, h79, e80, hF⟩ := bnd_out hF
      refine ab_callVd X S e82 (c_X2_difference l D cA sz e80) rfl (by decide) mi_X2_difference lm_X6_154 li_yX2_difference ls_yX2_difference (As := [.double x58, .double x73]) (rest := []) rfl ⟨by decide, by decide⟩ ⟨(by decide), (by decide)⟩ hl.1 rfl (by simp [ab_cat, ab_cI, ab_cJ, ab_cD, ab_cF]) dX6_blend_169 (fun H1 locs1 S => ?_)
      refine lv_dstore (lv' := [(8, .double x78), (6, .double x42), (4, .double x3), (0, va_rf (some this)), (1, .int p0), (2, .double p1)]) X.1 X.2.1 dX6_blend_172 hl (by decide) (by simp [ab_cat, ab_cI, ab_cJ, ab_cD, ab_cF]) (fun ls hl => ?_)
      refine ab_aload_n X dX6_blend_174 rfl (lv_at hl 3 rfl) ?_
      refine ab_getR X S hF fi_6_0 lf_X6_9 dX6_blend_175 (fun x83 hF => ?_)
      refine ab_aload_n X dX6_blend_178 rfl (lv_at hl 3 rfl) ?_
      refine ab_getR X S hF fi_6_0 lf_X6_9 dX6_blend_179 (fun x84 hF => ?_)
      refine lv_dload X.1 X.2.1 dX6_blend_182 (lv_at hl 2 rfl) ?_
      refine lv_dload X.1 X.2.1 dX6_blend_184 (lv_at hl 2 rfl) ?_
      obtain ⟨x85, ev, ne, hF⟩ := ab_fopx hF
      refine lv_dmul X.1 X.2.1 dX6_blend_186 ne ?_
      rw [ev]
      refine lv_dload X.1 X.2.1 dX6_blend_187 (lv_at hl 1 rfl) ?_
      obtain ⟨a89, e90, hF⟩ := bind_out hF
      obtain ⟨x86, h87, e88, hF⟩ := bnd_out hF
      refine ab_callVd X S e90 (c_X2_product l D cA sz e88) rfl (by decide) mi_X2_product lm_X6_119 li_yX2_product ls_yX2_product (As := [.double x85, .double x42]) (rest := [va_rf x83]) rfl ⟨by decide, by decide⟩ ⟨(by decide), (by decide)⟩ hl.1 rfl (by simp [ab_cat, ab_cI, ab_cJ, ab_cD, ab_cF]) dX6_blend_189 (fun H1 locs1 S => ?_)
      refine ab_aload_n X dX6_blend_192 rfl (lv_at hl 3 rfl) ?_
      refine ab_getR X S hF fi_6_0 lf_X6_9 dX6_blend_193 (fun x91 hF => ?_)
      refine lv_dload_n X.1 X.2.1 dX6_blend_196 rfl (lv_at hl 5 rfl) ?_
      refine lv_dload_n X.1 X.2.1 dX6_blend_197 rfl (lv_at hl 5 rfl) ?_
      obtain ⟨x92, ev, ne, hF⟩ := ab_fopx hF
      refine lv_dmul X.1 X.2.1 dX6_blend_198 ne ?_
      rw [ev]
      refine lv_dload X.1 X.2.1 dX6_blend_199 (lv_at hl 0 rfl) ?_
      obtain ⟨a96, e97, hF⟩ := bind_out hF
      obtain ⟨x93, h94, e95, hF⟩ := bnd_out hF
      refine ab_callVd X S e97 (c_X2_product l D cA sz e95) rfl (by decide) mi_X2_product lm_X6_119 li_yX2_product ls_yX2_product (As := [.double x92, .double x78]) (rest := [.double x86, va_rf x83]) rfl ⟨by decide, by decide⟩ ⟨(by decide), (by decide)⟩ hl.1 rfl (by simp [ab_cat, ab_cI, ab_cJ, ab_cD, ab_cF]) dX6_blend_201 (fun H1 locs1 S => ?_)
      obtain ⟨a101, e102, hF⟩ := bind_out hF
      obtain ⟨x98, h99, e100, hF⟩ := bnd_out hF
      refine ab_callVd X S e102 (c_X2_sum l D cA sz e100) rfl (by decide) mi_X2_sum lm_X6_127 li_yX2_sum ls_yX2_sum (As := [.double x86, .double x93]) (rest := []) rfl ⟨by decide, by decide⟩ ⟨(by decide), (by decide)⟩ hl.1 rfl (by simp [ab_cat, ab_cI, ab_cJ, ab_cD, ab_cF]) dX6_blend_204 (fun H1 locs1 S => ?_)
      refine lv_dstore (lv' := [(10, .double x98), (8, .double x78), (6, .double x42), (4, .double x3), (0, va_rf (some this)), (1, .int p0), (2, .double p1)]) X.1 X.2.1 dX6_blend_207 hl (by decide) (by simp [ab_cat, ab_cI, ab_cJ, ab_cD, ab_cF]) (fun ls hl => ?_)
      refine ab_aload_n X dX6_blend_209 rfl (lv_at hl 4 rfl) ?_
      refine ab_getR X S hF fi_6_7 lf_X6_24 dX6_blend_210 (fun x103 hF => ?_)
      refine lv_iload_n X.1 X.2.1 dX6_blend_213 rfl (lv_at hl 5 rfl) ?_
      refine lv_dload X.1 X.2.1 dX6_blend_214 (lv_at hl 0 rfl) ?_
      refine ab_aload_n X dX6_blend_216 rfl (lv_at hl 4 rfl) ?_
      refine ab_getR X S hF fi_6_0 lf_X6_9 dX6_blend_217 (fun x104 hF => ?_)
      refine ab_getI X S hF fi_2_1 lf_X6_130 dX6_blend_220 (fun x105 hF => ?_)
      refine ab_aload_n X dX6_blend_223 rfl (lv_at hl 4 rfl) ?_
      refine ab_getR X S hF fi_6_1 lf_X6_40 dX6_blend_224 (fun x106 hF => ?_)
      refine lv_iload_n X.1 X.2.1 dX6_blend_227 rfl (lv_at hl 5 rfl) ?_
      obtain ⟨a110, e111, hF⟩ := bind_out hF
      obtain ⟨x107, h108, e109, hF⟩ := bnd_out hF
      refine ab_callVi X S e111 (c_X1_isNarrow l D cA sz e109) rfl (by decide) mi_X1_isNarrow lm_X6_134 li_yX1_isNarrow ls_yX1_isNarrow (As := [.int p0]) (rest := [.int x105, .double x98, .int p0, va_rf x103]) rfl ⟨by decide, by decide⟩ ⟨(by decide), (by decide)⟩ hl.1 rfl (by simp [ab_cat, ab_cI, ab_cJ, ab_cD, ab_cF]) dX6_blend_228 (fun H1 locs1 S => ?_)
      obtain ⟨a115, e116, hF⟩ := bind_out hF
      obtain ⟨x112, h113, e114, hF⟩ := bnd_out hF
      refine ab_callVv X S e116 (c_X3_put l D cA sz e114) rfl (by decide) mi_X3_put lm_X6_137 li_yX3_put ls_yX3_put (As := [.int p0, .double x98, .int x105, .int x107]) (rest := []) rfl ⟨by decide, by decide⟩ ⟨(by decide), (by decide)⟩ hl.1 rfl (by simp [ab_cat, ab_cI, ab_cJ, ab_cD, ab_cF]) dX6_blend_231 (fun H1 locs1 S => ?_)
      exact ab_vret X S hr hF dX6_blend_234
    · have hF := ab_neg (fun q => q c2) hF
      refine ab_aload_n X dX6_blend_25 rfl (lv_at hl 0 rfl) ?_
      refine ab_getR X S hF fi_6_7 lf_X6_24 dX6_blend_26 (fun x117 hF => ?_)
      refine lv_iload_n X.1 X.2.1 dX6_blend_29 rfl (lv_at hl 1 rfl) ?_
      refine ab_aload_n X dX6_blend_30 rfl (lv_at hl 0 rfl) ?_
      refine ab_getR X S hF fi_6_8 lf_X6_27 dX6_blend_31 (fun x118 hF => ?_)
      obtain ⟨a122, e123, hF⟩ := bind_out hF
      obtain ⟨x119, h120, e121, hF⟩ := bnd_out hF
      refine ab_callVv X S e123 (c_X3_copyOne l D cA sz e121) rfl (by decide) mi_X3_copyOne lm_X6_182 li_yX3_copyOne ls_yX3_copyOne (As := [.int p0, va_rf x118]) (rest := []) rfl ⟨by decide, by decide⟩ ⟨(by decide), (by decide)⟩ hl.1 rfl (by simp [ab_cat, ab_cI, ab_cJ, ab_cD, ab_cF]) dX6_blend_34 (fun H1 locs1 S => ?_)
      exact ab_vret X S hr hF dX6_blend_37
  · have hF := ab_neg (fun q => q c1) hF
    refine ab_aload_n X dX6_blend_6 rfl (lv_at hl 0 rfl) ?_
    refine ab_getR X S hF fi_6_7 lf_X6_24 dX6_blend_7 (fun x124 hF => ?_)
    refine lv_iload_n X.1 X.2.1 dX6_blend_10 rfl (lv_at hl 1 rfl) ?_
    refine ab_aload_n X dX6_blend_11 rfl (lv_at hl 0 rfl) ?_
    refine ab_getR X S hF fi_6_6 lf_X6_20 dX6_blend_12 (fun x125 hF => ?_)
    obtain ⟨a129, e130, hF⟩ := bind_out hF
    obtain ⟨x126, h127, e128, hF⟩ := bnd_out hF
    refine ab_callVv X S e130 (c_X3_copyOne l D cA sz e128) rfl (by decide) mi_X3_copyOne lm_X6_182 li_yX3_copyOne ls_yX3_copyOne (As := [.int p0, va_rf x125]) (rest := []) rfl ⟨by decide, by decide⟩ ⟨(by decide), (by decide)⟩ hl.1 rfl (by simp [ab_cat, ab_cI, ab_cJ, ab_cD, ab_cF]) dX6_blend_15 (fun H1 locs1 S => ?_)
    exact ab_vret X S hr hF dX6_blend_18
def f_X6_blendAll_2  : Nat → Option Nat → UInt64 → Int32 → Hp → Option (Unit × Hp)
  | 0, _, _, _, _ => none
  | n + 1, v0, v1, v3, h => (getR h v0 6 1).bind fun x1 =>
    (getI h x1 1 1).bind fun x2 =>
    if x2 ≤ v3 then
      some ((), h)
    else
      (ab_ck h v0 (6, 0)).bind fun a7 =>
      bnd (f_X6_blend a7 v3 v1 h) fun _ h5 =>
      f_X6_blendAll_2 n v0 v1 (v3 + 1) h5
set_option maxHeartbeats 4000000 in
set_option maxRecDepth 100000 in
theorem w_X6_blendAll_2 {p : Program} {l : Launch} {e : Env} {s : State} {m : MethodId} {args : Array Value} {below : List Frame} {meth : Method} {c : Code} {D : va_G} {cA : Nat → ClassId} {sz : Nat}  {hh : Hp}  (X : ab_X p s m args meth c cX6_blendAll 4 RX6 D cA sz) (hr : meth.sig.returnType = none)  (n : Nat) : ∀ (v0 : Option Nat) (v1 : UInt64) (v3 : Int32) (h : Hp) (H : Heap) (locs : List Loc) (ls : Array Slot), ab_H D cA sz h s H locs → lv_has ls 4 [(0, va_rf v0), (1, .double v1), (3, .int v3)] → f_X6_blendAll_2 n v0 v1 v3 h = some ((), hh) → W p l e (ab_rm 2 0 0) s m args below meth c H locs 0 0 (MQ below (ab_Q D cA sz none hh) args s 0 0 (fun q => sz ≤ q)) (F0 m 2 ls []) := by
  induction n with
  | zero => intro v0 v1 v3 h H locs ls S hl hF; cases hF
  | succ n ih =>
    intro v0 v1 v3 h H locs ls S hl hF
    rw [f_X6_blendAll_2] at hF
    refine lv_iload_n X.1 X.2.1 dX6_blendAll_2 rfl (lv_at hl 2 rfl) ?_
    refine ab_aload_n X dX6_blendAll_3 rfl (lv_at hl 0 rfl) ?_
    refine ab_getR X S hF fi_6_1 lf_X6_40 dX6_blendAll_4 (fun x1 hF => ?_)
    refine ab_getI X S hF fi_1_1 lf_X6_95 dX6_blendAll_7 (fun x2 hF => ?_)
    refine lv_icmp_ge (tgt := 25) X.1 X.2.1 dX6_blendAll_10 (by decide) (fun c3 => ?_) (fun c3 => ?_)
    · have hF := ab_pos c3 hF
      exact ab_vret X S hr hF dX6_blendAll_25
    · have hF := ab_neg c3 hF
      refine ab_aload_n X dX6_blendAll_13 rfl (lv_at hl 0 rfl) ?_
      refine lv_iload_n X.1 X.2.1 dX6_blendAll_14 rfl (lv_at hl 2 rfl) ?_
      refine lv_dload_n X.1 X.2.1 dX6_blendAll_15 rfl (lv_at hl 1 rfl) ?_
      obtain ⟨a7, e8, hF⟩ := bind_out hF
      obtain ⟨x4, h5, e6, hF⟩ := bnd_out hF
      refine ab_callVv X S e8 (c_X6_blend l D cA sz e6) rfl (by decide) mi_X6_blend lm_X6_186 li_yX6_blend ls_yX6_blend (As := [.int v3, .double v1]) (rest := []) rfl ⟨by decide, by decide⟩ ⟨(by decide), (by decide)⟩ hl.1 rfl (by simp [ab_cat, ab_cI, ab_cJ, ab_cD, ab_cF]) dX6_blendAll_16 (fun H1 locs1 S => ?_)
      refine lv_iinc (v := v3 + 1) (lv' := [(3, .int (v3 + 1)), (0, va_rf v0), (1, .double v1)]) X.1 X.2.1 dX6_blendAll_19 hl (k := 2) rfl (by rfl) (by decide) (by simp [ab_cat, ab_cI, ab_cJ, ab_cD, ab_cF]) (fun ls hl => ?_)
      refine lv_goto (tgt := 2) X.1 X.2.1 dX6_blendAll_22 (by decide) ?_
      exact ih _ _ _ _ _ _ _ S (lv_sub hl [1, 2, 0] rfl) hF
def f_X6_blendAll (this : Nat) (p0 : UInt64) (h : Hp) : Option (Unit × Hp) :=
  f_X6_blendAll_2 fuelN (some this) p0 0 h
theorem mi_X6_blendAll : ab_MI yX6_blendAll cX6_blendAll 4 none 1 := ⟨lc_yX6_blendAll, lz_RX6, by decide, by decide, by decide +kernel⟩
set_option maxHeartbeats 4000000 in
set_option maxRecDepth 100000 in
theorem c_X6_blendAll (l : Launch) (D : va_G) (cA : Nat → ClassId) (sz : Nat) {this : Nat} {p0 : UInt64} {h hh : Hp}  (hF : f_X6_blendAll this p0 h = some ((), hh)) : ab_C l D cA sz yX6_blendAll cX6_blendAll 4 none 2 0 0 [.ref this, .double p0] h none hh := by
  refine Met.ofW (cc := cX6_blendAll) (maxL := 4) (ret := none) (by decide) rfl ?_
  intro p e s m args below meth c s₁ B hml hv
  obtain ⟨rfl, hT, hR⟩ := hv
  have X : ab_X p s m _ meth c cX6_blendAll 4 RX6 D cA sz := (ab_enter B hml hT hR).1
  have S := (ab_enter B hml hT hR).2
  have hr := B.returns
  obtain ⟨ls, hls, hl⟩ := ab_entry m [.ref this, .double p0] 4 (lv := [(0, .ref this), (1, .double p0)]) (by simp [lg_sl, ab_cat, ab_cI, ab_cJ, ab_cD, ab_cF, ab_cA]) (by simp [lv_args, ab_cat, ab_cI, ab_cJ, ab_cD, ab_cF, ab_cA])
  rw [hls]
  have hl : lv_has ls 4 [(0, va_rf (some this)), (1, .double p0)] := hl
  unfold f_X6_blendAll at hF
  show W p l e (ab_rm 2 0 0) s m _ below meth c s.heap [] 0 0 _ _
  refine lv_iconst (v := 0) X.1 X.2.1 dX6_blendAll_0 (by decide) ?_
  refine lv_istore_n (i := 3) (lv' := [(3, .int 0), (0, va_rf (some this)), (1, .double p0)]) X.1 X.2.1 dX6_blendAll_1 rfl hl (by decide) (by simp [ab_cat, ab_cI, ab_cJ, ab_cD, ab_cF]) (fun ls hl => ?_)
  exact w_X6_blendAll_2 X hr  fuelN _ _ _ _ _ _ _ S (lv_sub hl [1, 2, 0] rfl) hF
def f_X6_timeAt (this : Nat) (p0 : UInt64) (h : Hp) : Option (UInt64 × Hp) :=
  (getD h (some this) 6 3).bind fun x1 =>
  (getD h (some this) 6 4).bind fun x2 =>
  (fop (FP.dmul p0 x2)).bind fun x3 =>
  (fop (FP.dadd x1 x3)).bind fun x4 =>
  some (x4, h)
theorem mi_X6_timeAt : ab_MI yX6_timeAt cX6_timeAt 3 (some .double) 1 := ⟨lc_yX6_timeAt, lz_RX6, by decide, by decide, by decide +kernel⟩
set_option maxHeartbeats 4000000 in
set_option maxRecDepth 100000 in
theorem c_X6_timeAt (l : Launch) (D : va_G) (cA : Nat → ClassId) (sz : Nat) {this : Nat} {p0 : UInt64} {h hh : Hp} {rr : UInt64} (hF : f_X6_timeAt this p0 h = some (rr, hh)) : ab_C l D cA sz yX6_timeAt cX6_timeAt 3 (some .double) 0 0 0 [.ref this, .double p0] h (some (.double rr)) hh := by
  refine Met.ofW (cc := cX6_timeAt) (maxL := 3) (ret := (some .double)) (by decide) rfl ?_
  intro p e s m args below meth c s₁ B hml hv
  obtain ⟨rfl, hT, hR⟩ := hv
  have X : ab_X p s m _ meth c cX6_timeAt 3 RX6 D cA sz := (ab_enter B hml hT hR).1
  have S := (ab_enter B hml hT hR).2
  have hr := B.returns
  obtain ⟨ls, hls, hl⟩ := ab_entry m [.ref this, .double p0] 3 (lv := [(0, .ref this), (1, .double p0)]) (by simp [lg_sl, ab_cat, ab_cI, ab_cJ, ab_cD, ab_cF, ab_cA]) (by simp [lv_args, ab_cat, ab_cI, ab_cJ, ab_cD, ab_cF, ab_cA])
  rw [hls]
  have hl : lv_has ls 3 [(0, va_rf (some this)), (1, .double p0)] := hl
  unfold f_X6_timeAt at hF
  show W p l e (ab_rm 0 0 0) s m _ below meth c s.heap [] 0 0 _ _
  refine ab_aload_n X dX6_timeAt_0 rfl (lv_at hl 0 rfl) ?_
  refine ab_getD X S hF fi_6_3 lf_X6_48 dX6_timeAt_1 (fun x1 hF => ?_)
  refine lv_dload_n X.1 X.2.1 dX6_timeAt_4 rfl (lv_at hl 1 rfl) ?_
  refine ab_aload_n X dX6_timeAt_5 rfl (lv_at hl 0 rfl) ?_
  refine ab_getD X S hF fi_6_4 lf_X6_52 dX6_timeAt_6 (fun x2 hF => ?_)
  obtain ⟨x3, ev, ne, hF⟩ := ab_fopx hF
  refine lv_dmul X.1 X.2.1 dX6_timeAt_9 ne ?_
  rw [ev]
  obtain ⟨x4, ev, ne, hF⟩ := ab_fopx hF
  refine lv_dadd X.1 X.2.1 dX6_timeAt_10 ne ?_
  rw [ev]
  exact ab_dret X S hr hF dX6_timeAt_11
def f_X7_init_52 (k_18 : Option Nat → UInt64 → Int32 → Hp → Option (Unit × Hp)) (v0 : Option Nat) (v3 : Int32) (u0 : UInt64) (h : Hp) : Option (Unit × Hp) :=
  k_18 v0 u0 (v3 + 1) h
set_option maxHeartbeats 4000000 in
set_option maxRecDepth 100000 in
theorem w_X7_init_52 {p : Program} {l : Launch} {e : Env} {s : State} {m : MethodId} {args : Array Value} {below : List Frame} {meth : Method} {c : Code} {D : va_G} {cA : Nat → ClassId} {sz : Nat}  {hh : Hp} {k_18 : Option Nat → UInt64 → Int32 → Hp → Option (Unit × Hp)} (X : ab_X p s m args meth c cX7_init 4 RX7 D cA sz) (hr : meth.sig.returnType = none) (hin : meth.name = "<init>") (hk_18 : ∀ (v0 : Option Nat) (v1 : UInt64) (v3 : Int32) (h : Hp) (H : Heap) (locs : List Loc) (ls : Array Slot), ab_H D cA sz h s H locs → lv_has ls 4 [(0, va_rf v0), (1, .double v1), (3, .int v3)] → k_18 v0 v1 v3 h = some ((), hh) → W p l e (ab_rm 1 1 1000) s m args below meth c H locs 1 1000 (MQ below (ab_Q D cA sz none hh) args s 1 1000 (fun q => sz ≤ q)) (F0 m 18 ls [])) {H : Heap} {locs : List Loc} {ls : Array Slot} {v0 : Option Nat} {v3 : Int32} {u0 : UInt64} {h : Hp} (S : ab_H D cA sz h s H locs) (hl : lv_has ls 4 [(0, va_rf v0), (3, .int v3)]) (hF : f_X7_init_52 k_18 v0 v3 u0 h = some ((), hh)) : W p l e (ab_rm 1 1 1000) s m args below meth c H locs 1 1000 (MQ below (ab_Q D cA sz none hh) args s 1 1000 (fun q => sz ≤ q)) (F0 m 52 ls [.double u0]) := by
  unfold f_X7_init_52 at hF
  refine lv_dstore_n (i := 1) (lv' := [(1, .double u0), (0, va_rf v0), (3, .int v3)]) X.1 X.2.1 dX7_init_52 rfl hl (by decide) (by simp [ab_cat, ab_cI, ab_cJ, ab_cD, ab_cF]) (fun ls hl => ?_)
  refine lv_iinc (v := v3 + 1) (lv' := [(3, .int (v3 + 1)), (1, .double u0), (0, va_rf v0)]) X.1 X.2.1 dX7_init_53 hl (k := 2) rfl (by rfl) (by decide) (by simp [ab_cat, ab_cI, ab_cJ, ab_cD, ab_cF]) (fun ls hl => ?_)
  refine lv_goto (tgt := 18) X.1 X.2.1 dX7_init_56 (by decide) ?_
  refine W.widen (k := 1) (n := 1000) (Nat.le_of_ble_eq_true rfl) (Nat.le_of_ble_eq_true rfl) ?_
  exact hk_18 _ _ _ _ _ _ _ S (lv_sub hl [2, 1, 0] rfl) hF
def f_X7_init_18  : Nat → Option Nat → UInt64 → Int32 → Hp → Option (Unit × Hp)
  | 0, _, _, _, _ => none
  | n + 1, v0, v1, v3, h => (getR h v0 7 0).bind fun x1 =>
    (alen h x1 10).bind fun x2 =>
    if x2 ≤ v3 then
      some ((), h)
    else
      (getR h v0 7 0).bind fun x4 =>
      (astD h x4 v3 v1).bind fun h5 =>
      (getR h5 v0 7 0).bind fun x6 =>
      (alen h5 x6 10).bind fun x7 =>
      if (x7 - 1) ≤ v3 then
        f_X7_init_52 (f_X7_init_18 n) v0 v3 v1 h5
      else
        (fop (FP.dmul v1 v1)).bind fun x9 =>
        f_X7_init_52 (f_X7_init_18 n) v0 v3 x9 h5
set_option maxHeartbeats 4000000 in
set_option maxRecDepth 100000 in
theorem w_X7_init_18 {p : Program} {l : Launch} {e : Env} {s : State} {m : MethodId} {args : Array Value} {below : List Frame} {meth : Method} {c : Code} {D : va_G} {cA : Nat → ClassId} {sz : Nat}  {hh : Hp}  (X : ab_X p s m args meth c cX7_init 4 RX7 D cA sz) (hr : meth.sig.returnType = none) (hin : meth.name = "<init>")  (n : Nat) : ∀ (v0 : Option Nat) (v1 : UInt64) (v3 : Int32) (h : Hp) (H : Heap) (locs : List Loc) (ls : Array Slot), ab_H D cA sz h s H locs → lv_has ls 4 [(0, va_rf v0), (1, .double v1), (3, .int v3)] → f_X7_init_18 n v0 v1 v3 h = some ((), hh) → W p l e (ab_rm 1 1 1000) s m args below meth c H locs 1 1000 (MQ below (ab_Q D cA sz none hh) args s 1 1000 (fun q => sz ≤ q)) (F0 m 18 ls []) := by
  induction n with
  | zero => intro v0 v1 v3 h H locs ls S hl hF; cases hF
  | succ n ih =>
    intro v0 v1 v3 h H locs ls S hl hF
    rw [f_X7_init_18] at hF
    refine lv_iload_n X.1 X.2.1 dX7_init_18 rfl (lv_at hl 2 rfl) ?_
    refine ab_aload_n X dX7_init_19 rfl (lv_at hl 0 rfl) ?_
    refine ab_getR X S hF fi_7_0 lf_X7_9 dX7_init_20 (fun x1 hF => ?_)
    refine ab_alen X S hF rfl (by decide) dX7_init_23 (fun x2 hF => ?_)
    refine lv_icmp_ge (tgt := 59) X.1 X.2.1 dX7_init_24 (by decide) (fun c3 => ?_) (fun c3 => ?_)
    · have hF := ab_pos c3 hF
      refine W.widen (k := 1) (n := 1000) (Nat.le_of_ble_eq_true rfl) (Nat.le_of_ble_eq_true rfl) ?_
      exact ab_vret X S hr hF dX7_init_59
    · have hF := ab_neg c3 hF
      refine ab_aload_n X dX7_init_27 rfl (lv_at hl 0 rfl) ?_
      refine ab_getR X S hF fi_7_0 lf_X7_9 dX7_init_28 (fun x4 hF => ?_)
      refine lv_iload_n X.1 X.2.1 dX7_init_31 rfl (lv_at hl 2 rfl) ?_
      refine lv_dload_n X.1 X.2.1 dX7_init_32 rfl (lv_at hl 1 rfl) ?_
      refine ab_astD X S hF dX7_init_33 (fun h5 H1 locs1 hF S => ?_)
      refine lv_iload_n X.1 X.2.1 dX7_init_34 rfl (lv_at hl 2 rfl) ?_
      refine ab_aload_n X dX7_init_35 rfl (lv_at hl 0 rfl) ?_
      refine ab_getR X S hF fi_7_0 lf_X7_9 dX7_init_36 (fun x6 hF => ?_)
      refine ab_alen X S hF rfl (by decide) dX7_init_39 (fun x7 hF => ?_)
      refine lv_iconst (v := 1) X.1 X.2.1 dX7_init_40 (by decide) ?_
      refine lv_isub X.1 X.2.1 dX7_init_41 ?_
      refine lv_icmp_ge (tgt := 51) X.1 X.2.1 dX7_init_42 (by decide) (fun c8 => ?_) (fun c8 => ?_)
      · have hF := ab_pos c8 hF
        refine lv_dload_n X.1 X.2.1 dX7_init_51 rfl (lv_at hl 1 rfl) ?_
        refine W.widen (k := 1) (n := 1000) (Nat.le_of_ble_eq_true rfl) (Nat.le_of_ble_eq_true rfl) ?_
        exact w_X7_init_52 X hr hin ih S (lv_sub hl [0, 2] rfl) hF
      · have hF := ab_neg c8 hF
        refine lv_dload_n X.1 X.2.1 dX7_init_45 rfl (lv_at hl 1 rfl) ?_
        refine lv_dload_n X.1 X.2.1 dX7_init_46 rfl (lv_at hl 1 rfl) ?_
        obtain ⟨x9, ev, ne, hF⟩ := ab_fopx hF
        refine lv_dmul X.1 X.2.1 dX7_init_47 ne ?_
        rw [ev]
        refine lv_goto (tgt := 52) X.1 X.2.1 dX7_init_48 (by decide) ?_
        refine W.widen (k := 1) (n := 1000) (Nat.le_of_ble_eq_true rfl) (Nat.le_of_ble_eq_true rfl) ?_
        exact w_X7_init_52 X hr hin ih S (lv_sub hl [0, 2] rfl) hF
def f_X7_init (this : Nat) (h : Hp) : Option (Unit × Hp) :=
  bnd (newa h 10 10) fun x2 h1 =>
  (putR h1 (some this) 7 0 x2).bind fun h3 =>
  f_X7_init_18 fuelN (some this) 4611686018427387904 0 h3
theorem mi_X7_init : ab_MI yX7_init cX7_init 4 none 0 := ⟨lc_yX7_init, lz_RX7, by decide, by decide, by decide +kernel⟩
set_option maxHeartbeats 4000000 in
set_option maxRecDepth 100000 in
theorem c_X7_init (l : Launch) (D : va_G) (cA : Nat → ClassId) (sz : Nat) {this : Nat} {h hh : Hp}  (hF : f_X7_init this h = some ((), hh)) : ab_C l D cA sz yX7_init cX7_init 4 none 1 1 1000 [.ref this] h none hh := by
  refine Met.ofW (cc := cX7_init) (maxL := 4) (ret := none) (by decide) rfl ?_
  intro p e s m args below meth c s₁ B hml hv
  obtain ⟨rfl, hT, hR⟩ := hv
  have X : ab_X p s m _ meth c cX7_init 4 RX7 D cA sz := (ab_enter B hml hT hR).1
  have S := (ab_enter B hml hT hR).2
  have hr := B.returns
  obtain ⟨ls, hls, hl⟩ := ab_entry m [.ref this] 4 (lv := [(0, .ref this)]) (by simp [lg_sl, ab_cat, ab_cI, ab_cJ, ab_cD, ab_cF, ab_cA]) (by simp [lv_args, ab_cat, ab_cI, ab_cJ, ab_cD, ab_cF, ab_cA])
  rw [hls]
  have hl : lv_has ls 4 [(0, va_rf (some this))] := hl
  have hin : meth.name = "<init>" := (name_of_methodNamed B.named B.method).1
  unfold f_X7_init at hF
  show W p l e (ab_rm 1 1 1000) s m _ below meth c s.heap [] 0 0 _ _
  refine ab_aload_n X dX7_init_0 rfl (lv_at hl 0 rfl) ?_
  refine ab_objInit X lm_X7_3 hl.1 (by decide) (by simp [ab_cat, ab_cI, ab_cJ, ab_cD, ab_cF]) dX7_init_1 ?_
  refine ab_aload_n X dX7_init_4 rfl (lv_at hl 0 rfl) ?_
  refine lv_bipush (v := 10) X.1 X.2.1 dX7_init_5 (by decide) ?_
  refine ab_newD X S hF la_double (by decide) (by decide) dX7_init_7 (fun x2 h1 H1 hF S => ?_)
  refine ab_putR X S hF fi_7_0 ci_7 (Or.inr ⟨rfl, hin, rfl⟩) (fun q => by cases q <;> rfl) (fun q => by cases q <;> rfl) lf_X7_9 dX7_init_9 (fun h3 H1 locs1 hF S => ?_)
  refine lv_ldc2d (v := 4611686018427387904) X.1 X.2.1 X.2.2.2.1 (X.2.2.2.2.1 _ ld_X7_15) dX7_init_12 ?_
  refine lv_dstore_n (i := 1) (lv' := [(1, .double 4611686018427387904), (0, va_rf (some this))]) X.1 X.2.1 dX7_init_15 rfl hl (by decide) (by simp [ab_cat, ab_cI, ab_cJ, ab_cD, ab_cF]) (fun ls hl => ?_)
  refine lv_iconst (v := 0) X.1 X.2.1 dX7_init_16 (by decide) ?_
  refine lv_istore_n (i := 3) (lv' := [(3, .int 0), (1, .double 4611686018427387904), (0, va_rf (some this))]) X.1 X.2.1 dX7_init_17 rfl hl (by decide) (by simp [ab_cat, ab_cI, ab_cJ, ab_cD, ab_cF]) (fun ls hl => ?_)
  refine W.widen (k := 1) (n := 1000) (Nat.le_of_ble_eq_true rfl) (Nat.le_of_ble_eq_true rfl) ?_
  exact w_X7_init_18 X hr hin  fuelN _ _ _ _ _ _ _ S (lv_sub hl [2, 1, 0] rfl) hF
def f_X7_bitsOfSize_150 (k_110 : Option Nat → UInt64 → Int64 → Int32 → Hp → Option (Int64 × Hp)) (v0 : Option Nat) (v3 : UInt64) (v5 : Int64) (v7 : Int32) (h : Hp) : Option (Int64 × Hp) :=
  k_110 v0 v3 v5 (v7 + (-1)) h
set_option maxHeartbeats 4000000 in
set_option maxRecDepth 100000 in
theorem w_X7_bitsOfSize_150 {p : Program} {l : Launch} {e : Env} {s : State} {m : MethodId} {args : Array Value} {below : List Frame} {meth : Method} {c : Code} {D : va_G} {cA : Nat → ClassId} {sz : Nat} {rr : Int64} {hh : Hp} {k_110 : Option Nat → UInt64 → Int64 → Int32 → Hp → Option (Int64 × Hp)} (X : ab_X p s m args meth c cX7_bitsOfSize 8 RX7 D cA sz) (hr : meth.sig.returnType = (some .long)) (hk_110 : ∀ (v0 : Option Nat) (v3 : UInt64) (v5 : Int64) (v7 : Int32) (h : Hp) (H : Heap) (locs : List Loc) (ls : Array Slot), ab_H D cA sz h s H locs → lv_has ls 8 [(0, va_rf v0), (3, .double v3), (5, .long v5), (7, .int v7)] → k_110 v0 v3 v5 v7 h = some (rr, hh) → W p l e (ab_rm 0 0 0) s m args below meth c H locs 0 0 (MQ below (ab_Q D cA sz (some (.long rr)) hh) args s 0 0 (fun q => sz ≤ q)) (F0 m 110 ls [])) {H : Heap} {locs : List Loc} {ls : Array Slot} {v0 : Option Nat} {v3 : UInt64} {v5 : Int64} {v7 : Int32} {h : Hp} (S : ab_H D cA sz h s H locs) (hl : lv_has ls 8 [(0, va_rf v0), (3, .double v3), (5, .long v5), (7, .int v7)]) (hF : f_X7_bitsOfSize_150 k_110 v0 v3 v5 v7 h = some (rr, hh)) : W p l e (ab_rm 0 0 0) s m args below meth c H locs 0 0 (MQ below (ab_Q D cA sz (some (.long rr)) hh) args s 0 0 (fun q => sz ≤ q)) (F0 m 150 ls []) := by
  unfold f_X7_bitsOfSize_150 at hF
  refine lv_iinc (v := v7 + (-1)) (lv' := [(7, .int (v7 + (-1))), (0, va_rf v0), (3, .double v3), (5, .long v5)]) X.1 X.2.1 dX7_bitsOfSize_150 hl (k := 3) rfl (by rfl) (by decide) (by simp [ab_cat, ab_cI, ab_cJ, ab_cD, ab_cF]) (fun ls hl => ?_)
  refine lv_goto (tgt := 110) X.1 X.2.1 dX7_bitsOfSize_153 (by decide) ?_
  exact hk_110 _ _ _ _ _ _ _ _ S (lv_sub hl [1, 2, 3, 0] rfl) hF
def f_X7_bitsOfSize_110  : Nat → Option Nat → UInt64 → Int64 → Int32 → Hp → Option (Int64 × Hp)
  | 0, _, _, _, _, _ => none
  | n + 1, v0, v3, v5, v7, h => if v7 < 0 then
      (fop (FP.dmul v3 4841369599423283200)).bind fun x2 =>
      some ((v5 <<< ((52 : Int32).toInt64 &&& 63)) + ((FP.d2l x2) - (4503599627370496)), h)
    else
      (getR h v0 7 0).bind fun x3 =>
      (aldD h x3 v7).bind fun x4 =>
      (fop (FP.dmul v3 x4)).bind fun x5 =>
      if 0 ≤ (Op.cmpValue (FP.dcmp x5 4611686018427387904) CmpOp.g) then
        f_X7_bitsOfSize_150 (f_X7_bitsOfSize_110 n) v0 v3 v5 v7 h
      else
        (getR h v0 7 0).bind fun x7 =>
        (aldD h x7 v7).bind fun x8 =>
        (fop (FP.dmul v3 x8)).bind fun x9 =>
        f_X7_bitsOfSize_150 (f_X7_bitsOfSize_110 n) v0 x9 (v5 - (1 <<< (v7.toInt64 &&& 63))) v7 h
set_option maxHeartbeats 4000000 in
set_option maxRecDepth 100000 in
theorem w_X7_bitsOfSize_110 {p : Program} {l : Launch} {e : Env} {s : State} {m : MethodId} {args : Array Value} {below : List Frame} {meth : Method} {c : Code} {D : va_G} {cA : Nat → ClassId} {sz : Nat} {rr : Int64} {hh : Hp}  (X : ab_X p s m args meth c cX7_bitsOfSize 8 RX7 D cA sz) (hr : meth.sig.returnType = (some .long))  (n : Nat) : ∀ (v0 : Option Nat) (v3 : UInt64) (v5 : Int64) (v7 : Int32) (h : Hp) (H : Heap) (locs : List Loc) (ls : Array Slot), ab_H D cA sz h s H locs → lv_has ls 8 [(0, va_rf v0), (3, .double v3), (5, .long v5), (7, .int v7)] → f_X7_bitsOfSize_110 n v0 v3 v5 v7 h = some (rr, hh) → W p l e (ab_rm 0 0 0) s m args below meth c H locs 0 0 (MQ below (ab_Q D cA sz (some (.long rr)) hh) args s 0 0 (fun q => sz ≤ q)) (F0 m 110 ls []) := by
  induction n with
  | zero => intro v0 v3 v5 v7 h H locs ls S hl hF; cases hF
  | succ n ih =>
    intro v0 v3 v5 v7 h H locs ls S hl hF
    rw [f_X7_bitsOfSize_110] at hF
    refine lv_iload X.1 X.2.1 dX7_bitsOfSize_110 (lv_at hl 3 rfl) ?_
    refine lv_if_lt (tgt := 156) X.1 X.2.1 dX7_bitsOfSize_112 (by decide) (fun c1 => ?_) (fun c1 => ?_)
    · have hF := ab_pos c1 hF
      refine lv_lload X.1 X.2.1 dX7_bitsOfSize_156 (lv_at hl 2 rfl) ?_
      refine lv_bipush (v := 52) X.1 X.2.1 dX7_bitsOfSize_158 (by decide) ?_
      refine lv_lshl (v := v5 <<< ((52 : Int32).toInt64 &&& 63)) X.1 X.2.1 dX7_bitsOfSize_160 rfl ?_
      refine lv_dload_n X.1 X.2.1 dX7_bitsOfSize_161 rfl (lv_at hl 1 rfl) ?_
      refine lv_ldc2d (v := 4841369599423283200) X.1 X.2.1 X.2.2.2.1 (X.2.2.2.2.1 _ ld_X7_47) dX7_bitsOfSize_162 ?_
      obtain ⟨x2, ev, ne, hF⟩ := ab_fopx hF
      refine lv_dmul X.1 X.2.1 dX7_bitsOfSize_165 ne ?_
      rw [ev]
      refine lv_d2l X.1 X.2.1 dX7_bitsOfSize_166 ?_
      refine lv_ldc2 (v := (4503599627370496)) X.1 X.2.1 X.2.2.2.1 (X.2.2.2.2.1 _ ll_X7_49) dX7_bitsOfSize_167 ?_
      refine lv_lsub X.1 X.2.1 dX7_bitsOfSize_170 ?_
      refine lv_ladd X.1 X.2.1 dX7_bitsOfSize_171 ?_
      exact ab_lret X S hr hF dX7_bitsOfSize_172
    · have hF := ab_neg c1 hF
      refine lv_dload_n X.1 X.2.1 dX7_bitsOfSize_115 rfl (lv_at hl 1 rfl) ?_
      refine ab_aload_n X dX7_bitsOfSize_116 rfl (lv_at hl 0 rfl) ?_
      refine ab_getR X S hF fi_7_0 lf_X7_9 dX7_bitsOfSize_117 (fun x3 hF => ?_)
      refine lv_iload X.1 X.2.1 dX7_bitsOfSize_120 (lv_at hl 3 rfl) ?_
      refine ab_aldD X S hF dX7_bitsOfSize_122 (fun x4 hF => ?_)
      obtain ⟨x5, ev, ne, hF⟩ := ab_fopx hF
      refine lv_dmul X.1 X.2.1 dX7_bitsOfSize_123 ne ?_
      rw [ev]
      refine lv_ldc2d (v := 4611686018427387904) X.1 X.2.1 X.2.2.2.1 (X.2.2.2.2.1 _ ld_X7_15) dX7_bitsOfSize_124 ?_
      refine lv_dcmp X.1 X.2.1 dX7_bitsOfSize_127 ?_
      refine lv_if_ge (tgt := 150) X.1 X.2.1 dX7_bitsOfSize_128 (by decide) (fun c6 => ?_) (fun c6 => ?_)
      · have hF := ab_pos c6 hF
        exact w_X7_bitsOfSize_150 X hr ih S (lv_sub hl [0, 1, 2, 3] rfl) hF
      · have hF := ab_neg c6 hF
        refine lv_dload_n X.1 X.2.1 dX7_bitsOfSize_131 rfl (lv_at hl 1 rfl) ?_
        refine ab_aload_n X dX7_bitsOfSize_132 rfl (lv_at hl 0 rfl) ?_
        refine ab_getR X S hF fi_7_0 lf_X7_9 dX7_bitsOfSize_133 (fun x7 hF => ?_)
        refine lv_iload X.1 X.2.1 dX7_bitsOfSize_136 (lv_at hl 3 rfl) ?_
        refine ab_aldD X S hF dX7_bitsOfSize_138 (fun x8 hF => ?_)
        obtain ⟨x9, ev, ne, hF⟩ := ab_fopx hF
        refine lv_dmul X.1 X.2.1 dX7_bitsOfSize_139 ne ?_
        rw [ev]
        refine lv_dstore_n (i := 3) (lv' := [(3, .double x9), (0, va_rf v0), (5, .long v5), (7, .int v7)]) X.1 X.2.1 dX7_bitsOfSize_140 rfl hl (by decide) (by simp [ab_cat, ab_cI, ab_cJ, ab_cD, ab_cF]) (fun ls hl => ?_)
        refine lv_lload X.1 X.2.1 dX7_bitsOfSize_141 (lv_at hl 2 rfl) ?_
        refine lv_lconst (v := 1) X.1 X.2.1 dX7_bitsOfSize_143 (by decide) ?_
        refine lv_iload X.1 X.2.1 dX7_bitsOfSize_144 (lv_at hl 3 rfl) ?_
        refine lv_lshl (v := 1 <<< (v7.toInt64 &&& 63)) X.1 X.2.1 dX7_bitsOfSize_146 rfl ?_
        refine lv_lsub X.1 X.2.1 dX7_bitsOfSize_147 ?_
        refine lv_lstore (lv' := [(5, .long (v5 - (1 <<< (v7.toInt64 &&& 63)))), (3, .double x9), (0, va_rf v0), (7, .int v7)]) X.1 X.2.1 dX7_bitsOfSize_148 hl (by decide) (by simp [ab_cat, ab_cI, ab_cJ, ab_cD, ab_cF]) (fun ls hl => ?_)
        exact w_X7_bitsOfSize_150 X hr ih S (lv_sub hl [2, 1, 0, 3] rfl) hF
def f_X7_bitsOfSize_95 (k_59 : Option Nat → UInt64 → Int64 → Int32 → Hp → Option (Int64 × Hp)) (v0 : Option Nat) (v3 : UInt64) (v5 : Int64) (v7 : Int32) (h : Hp) : Option (Int64 × Hp) :=
  k_59 v0 v3 v5 (v7 + (-1)) h
set_option maxHeartbeats 4000000 in
set_option maxRecDepth 100000 in
theorem w_X7_bitsOfSize_95 {p : Program} {l : Launch} {e : Env} {s : State} {m : MethodId} {args : Array Value} {below : List Frame} {meth : Method} {c : Code} {D : va_G} {cA : Nat → ClassId} {sz : Nat} {rr : Int64} {hh : Hp} {k_59 : Option Nat → UInt64 → Int64 → Int32 → Hp → Option (Int64 × Hp)} (X : ab_X p s m args meth c cX7_bitsOfSize 8 RX7 D cA sz) (hr : meth.sig.returnType = (some .long)) (hk_59 : ∀ (v0 : Option Nat) (v3 : UInt64) (v5 : Int64) (v7 : Int32) (h : Hp) (H : Heap) (locs : List Loc) (ls : Array Slot), ab_H D cA sz h s H locs → lv_has ls 8 [(0, va_rf v0), (3, .double v3), (5, .long v5), (7, .int v7)] → k_59 v0 v3 v5 v7 h = some (rr, hh) → W p l e (ab_rm 0 0 0) s m args below meth c H locs 0 0 (MQ below (ab_Q D cA sz (some (.long rr)) hh) args s 0 0 (fun q => sz ≤ q)) (F0 m 59 ls [])) {H : Heap} {locs : List Loc} {ls : Array Slot} {v0 : Option Nat} {v3 : UInt64} {v5 : Int64} {v7 : Int32} {h : Hp} (S : ab_H D cA sz h s H locs) (hl : lv_has ls 8 [(0, va_rf v0), (3, .double v3), (5, .long v5), (7, .int v7)]) (hF : f_X7_bitsOfSize_95 k_59 v0 v3 v5 v7 h = some (rr, hh)) : W p l e (ab_rm 0 0 0) s m args below meth c H locs 0 0 (MQ below (ab_Q D cA sz (some (.long rr)) hh) args s 0 0 (fun q => sz ≤ q)) (F0 m 95 ls []) := by
  unfold f_X7_bitsOfSize_95 at hF
  refine lv_iinc (v := v7 + (-1)) (lv' := [(7, .int (v7 + (-1))), (0, va_rf v0), (3, .double v3), (5, .long v5)]) X.1 X.2.1 dX7_bitsOfSize_95 hl (k := 3) rfl (by rfl) (by decide) (by simp [ab_cat, ab_cI, ab_cJ, ab_cD, ab_cF]) (fun ls hl => ?_)
  refine lv_goto (tgt := 59) X.1 X.2.1 dX7_bitsOfSize_98 (by decide) ?_
  exact hk_59 _ _ _ _ _ _ _ _ S (lv_sub hl [1, 2, 3, 0] rfl) hF
def f_X7_bitsOfSize_59  : Nat → Option Nat → UInt64 → Int64 → Int32 → Hp → Option (Int64 × Hp)
  | 0, _, _, _, _, _ => none
  | n + 1, v0, v3, v5, v7, h => if v7 < 0 then
      (getR h v0 7 0).bind fun x2 =>
      (alen h x2 10).bind fun x3 =>
      f_X7_bitsOfSize_110 fuelN v0 v3 v5 (x3 - 1) h
    else
      (getR h v0 7 0).bind fun x4 =>
      (aldD h x4 v7).bind fun x5 =>
      if (Op.cmpValue (FP.dcmp v3 x5) CmpOp.l) < 0 then
        f_X7_bitsOfSize_95 (f_X7_bitsOfSize_59 n) v0 v3 v5 v7 h
      else
        (getR h v0 7 0).bind fun x7 =>
        (aldD h x7 v7).bind fun x8 =>
        (fop (FP.ddiv v3 x8)).bind fun x9 =>
        f_X7_bitsOfSize_95 (f_X7_bitsOfSize_59 n) v0 x9 (v5 + (1 <<< (v7.toInt64 &&& 63))) v7 h
set_option maxHeartbeats 4000000 in
set_option maxRecDepth 100000 in
theorem w_X7_bitsOfSize_59 {p : Program} {l : Launch} {e : Env} {s : State} {m : MethodId} {args : Array Value} {below : List Frame} {meth : Method} {c : Code} {D : va_G} {cA : Nat → ClassId} {sz : Nat} {rr : Int64} {hh : Hp}  (X : ab_X p s m args meth c cX7_bitsOfSize 8 RX7 D cA sz) (hr : meth.sig.returnType = (some .long))  (n : Nat) : ∀ (v0 : Option Nat) (v3 : UInt64) (v5 : Int64) (v7 : Int32) (h : Hp) (H : Heap) (locs : List Loc) (ls : Array Slot), ab_H D cA sz h s H locs → lv_has ls 8 [(0, va_rf v0), (3, .double v3), (5, .long v5), (7, .int v7)] → f_X7_bitsOfSize_59 n v0 v3 v5 v7 h = some (rr, hh) → W p l e (ab_rm 0 0 0) s m args below meth c H locs 0 0 (MQ below (ab_Q D cA sz (some (.long rr)) hh) args s 0 0 (fun q => sz ≤ q)) (F0 m 59 ls []) := by
  induction n with
  | zero => intro v0 v3 v5 v7 h H locs ls S hl hF; cases hF
  | succ n ih =>
    intro v0 v3 v5 v7 h H locs ls S hl hF
    rw [f_X7_bitsOfSize_59] at hF
    refine lv_iload X.1 X.2.1 dX7_bitsOfSize_59 (lv_at hl 3 rfl) ?_
    refine lv_if_lt (tgt := 101) X.1 X.2.1 dX7_bitsOfSize_61 (by decide) (fun c1 => ?_) (fun c1 => ?_)
    · have hF := ab_pos c1 hF
      refine ab_aload_n X dX7_bitsOfSize_101 rfl (lv_at hl 0 rfl) ?_
      refine ab_getR X S hF fi_7_0 lf_X7_9 dX7_bitsOfSize_102 (fun x2 hF => ?_)
      refine ab_alen X S hF rfl (by decide) dX7_bitsOfSize_105 (fun x3 hF => ?_)
      refine lv_iconst (v := 1) X.1 X.2.1 dX7_bitsOfSize_106 (by decide) ?_
      refine lv_isub X.1 X.2.1 dX7_bitsOfSize_107 ?_
      refine lv_istore (lv' := [(7, .int (x3 - 1)), (0, va_rf v0), (3, .double v3), (5, .long v5)]) X.1 X.2.1 dX7_bitsOfSize_108 hl (by decide) (by simp [ab_cat, ab_cI, ab_cJ, ab_cD, ab_cF]) (fun ls hl => ?_)
      exact w_X7_bitsOfSize_110 X hr  fuelN _ _ _ _ _ _ _ _ S (lv_sub hl [1, 2, 3, 0] rfl) hF
    · have hF := ab_neg c1 hF
      refine lv_dload_n X.1 X.2.1 dX7_bitsOfSize_64 rfl (lv_at hl 1 rfl) ?_
      refine ab_aload_n X dX7_bitsOfSize_65 rfl (lv_at hl 0 rfl) ?_
      refine ab_getR X S hF fi_7_0 lf_X7_9 dX7_bitsOfSize_66 (fun x4 hF => ?_)
      refine lv_iload X.1 X.2.1 dX7_bitsOfSize_69 (lv_at hl 3 rfl) ?_
      refine ab_aldD X S hF dX7_bitsOfSize_71 (fun x5 hF => ?_)
      refine lv_dcmp X.1 X.2.1 dX7_bitsOfSize_72 ?_
      refine lv_if_lt (tgt := 95) X.1 X.2.1 dX7_bitsOfSize_73 (by decide) (fun c6 => ?_) (fun c6 => ?_)
      · have hF := ab_pos c6 hF
        exact w_X7_bitsOfSize_95 X hr ih S (lv_sub hl [0, 1, 2, 3] rfl) hF
      · have hF := ab_neg c6 hF
        refine lv_dload_n X.1 X.2.1 dX7_bitsOfSize_76 rfl (lv_at hl 1 rfl) ?_
        refine ab_aload_n X dX7_bitsOfSize_77 rfl (lv_at hl 0 rfl) ?_
        refine ab_getR X S hF fi_7_0 lf_X7_9 dX7_bitsOfSize_78 (fun x7 hF => ?_)
        refine lv_iload X.1 X.2.1 dX7_bitsOfSize_81 (lv_at hl 3 rfl) ?_
        refine ab_aldD X S hF dX7_bitsOfSize_83 (fun x8 hF => ?_)
        obtain ⟨x9, ev, ne, hF⟩ := ab_fopx hF
        refine lv_ddiv X.1 X.2.1 dX7_bitsOfSize_84 ne ?_
        rw [ev]
        refine lv_dstore_n (i := 3) (lv' := [(3, .double x9), (0, va_rf v0), (5, .long v5), (7, .int v7)]) X.1 X.2.1 dX7_bitsOfSize_85 rfl hl (by decide) (by simp [ab_cat, ab_cI, ab_cJ, ab_cD, ab_cF]) (fun ls hl => ?_)
        refine lv_lload X.1 X.2.1 dX7_bitsOfSize_86 (lv_at hl 2 rfl) ?_
        refine lv_lconst (v := 1) X.1 X.2.1 dX7_bitsOfSize_88 (by decide) ?_
        refine lv_iload X.1 X.2.1 dX7_bitsOfSize_89 (lv_at hl 3 rfl) ?_
        refine lv_lshl (v := 1 <<< (v7.toInt64 &&& 63)) X.1 X.2.1 dX7_bitsOfSize_91 rfl ?_
        refine lv_ladd X.1 X.2.1 dX7_bitsOfSize_92 ?_
        refine lv_lstore (lv' := [(5, .long (v5 + (1 <<< (v7.toInt64 &&& 63)))), (3, .double x9), (0, va_rf v0), (7, .int v7)]) X.1 X.2.1 dX7_bitsOfSize_93 hl (by decide) (by simp [ab_cat, ab_cI, ab_cJ, ab_cD, ab_cF]) (fun ls hl => ?_)
        exact w_X7_bitsOfSize_95 X hr ih S (lv_sub hl [2, 1, 0, 3] rfl) hF
def f_X7_bitsOfSize (this : Nat) (p0 : UInt64) (h : Hp) : Option (Int64 × Hp) :=
  if (Op.cmpValue (FP.dcmp p0 9218868437227405311) CmpOp.l) ≤ 0 then
    if 0 ≤ (Op.cmpValue (FP.dcmp p0 4503599627370496) CmpOp.g) then
      (getR h (some this) 7 0).bind fun x3 =>
      (alen h x3 10).bind fun x4 =>
      f_X7_bitsOfSize_59 fuelN (some this) p0 (1023) (x4 - 1) h
    else
      (getR h (some this) 7 0).bind fun x5 =>
      (aldD h x5 9).bind fun x6 =>
      (fop (FP.dmul p0 x6)).bind fun x7 =>
      (getR h (some this) 7 0).bind fun x8 =>
      (aldD h x8 9).bind fun x9 =>
      (fop (FP.dmul x7 x9)).bind fun x10 =>
      (fop (FP.dmul x10 4832362400168542208)).bind fun x11 =>
      some (FP.d2l x11, h)
  else
    some ((9218868437227405312), h)
theorem mi_X7_bitsOfSize : ab_MI yX7_bitsOfSize cX7_bitsOfSize 8 (some .long) 1 := ⟨lc_yX7_bitsOfSize, lz_RX7, by decide, by decide, by decide +kernel⟩
set_option maxHeartbeats 4000000 in
set_option maxRecDepth 100000 in
theorem c_X7_bitsOfSize (l : Launch) (D : va_G) (cA : Nat → ClassId) (sz : Nat) {this : Nat} {p0 : UInt64} {h hh : Hp} {rr : Int64} (hF : f_X7_bitsOfSize this p0 h = some (rr, hh)) : ab_C l D cA sz yX7_bitsOfSize cX7_bitsOfSize 8 (some .long) 0 0 0 [.ref this, .double p0] h (some (.long rr)) hh := by
  refine Met.ofW (cc := cX7_bitsOfSize) (maxL := 8) (ret := (some .long)) (by decide) rfl ?_
  intro p e s m args below meth c s₁ B hml hv
  obtain ⟨rfl, hT, hR⟩ := hv
  have X : ab_X p s m _ meth c cX7_bitsOfSize 8 RX7 D cA sz := (ab_enter B hml hT hR).1
  have S := (ab_enter B hml hT hR).2
  have hr := B.returns
  obtain ⟨ls, hls, hl⟩ := ab_entry m [.ref this, .double p0] 8 (lv := [(0, .ref this), (1, .double p0)]) (by simp [lg_sl, ab_cat, ab_cI, ab_cJ, ab_cD, ab_cF, ab_cA]) (by simp [lv_args, ab_cat, ab_cI, ab_cJ, ab_cD, ab_cF, ab_cA])
  rw [hls]
  have hl : lv_has ls 8 [(0, va_rf (some this)), (1, .double p0)] := hl
  unfold f_X7_bitsOfSize at hF
  show W p l e (ab_rm 0 0 0) s m _ below meth c s.heap [] 0 0 _ _
  refine lv_dload_n X.1 X.2.1 dX7_bitsOfSize_0 rfl (lv_at hl 1 rfl) ?_
  refine lv_ldc2d (v := 9218868437227405311) X.1 X.2.1 X.2.2.2.1 (X.2.2.2.2.1 _ ld_X7_37) dX7_bitsOfSize_1 ?_
  refine lv_dcmp X.1 X.2.1 dX7_bitsOfSize_4 ?_
  refine lv_if_le (tgt := 12) X.1 X.2.1 dX7_bitsOfSize_5 (by decide) (fun c1 => ?_) (fun c1 => ?_)
  · have hF := ab_pos c1 hF
    refine lv_dload_n X.1 X.2.1 dX7_bitsOfSize_12 rfl (lv_at hl 1 rfl) ?_
    refine lv_ldc2d (v := 4503599627370496) X.1 X.2.1 X.2.2.2.1 (X.2.2.2.2.1 _ ld_X7_41) dX7_bitsOfSize_13 ?_
    refine lv_dcmp X.1 X.2.1 dX7_bitsOfSize_16 ?_
    refine lv_if_ge (tgt := 43) X.1 X.2.1 dX7_bitsOfSize_17 (by decide) (fun c2 => ?_) (fun c2 => ?_)
    · have hF := ab_pos c2 hF
      refine lv_dload_n X.1 X.2.1 dX7_bitsOfSize_43 rfl (lv_at hl 1 rfl) ?_
      refine lv_dstore_n (i := 3) (lv' := [(3, .double p0), (0, va_rf (some this)), (1, .double p0)]) X.1 X.2.1 dX7_bitsOfSize_44 rfl hl (by decide) (by simp [ab_cat, ab_cI, ab_cJ, ab_cD, ab_cF]) (fun ls hl => ?_)
      refine lv_ldc2 (v := (1023)) X.1 X.2.1 X.2.2.2.1 (X.2.2.2.2.1 _ ll_X7_45) dX7_bitsOfSize_45 ?_
      refine lv_lstore (lv' := [(5, .long (1023)), (3, .double p0), (0, va_rf (some this)), (1, .double p0)]) X.1 X.2.1 dX7_bitsOfSize_48 hl (by decide) (by simp [ab_cat, ab_cI, ab_cJ, ab_cD, ab_cF]) (fun ls hl => ?_)
      refine ab_aload_n X dX7_bitsOfSize_50 rfl (lv_at hl 2 rfl) ?_
      refine ab_getR X S hF fi_7_0 lf_X7_9 dX7_bitsOfSize_51 (fun x3 hF => ?_)
      refine ab_alen X S hF rfl (by decide) dX7_bitsOfSize_54 (fun x4 hF => ?_)
      refine lv_iconst (v := 1) X.1 X.2.1 dX7_bitsOfSize_55 (by decide) ?_
      refine lv_isub X.1 X.2.1 dX7_bitsOfSize_56 ?_
      refine lv_istore (lv' := [(7, .int (x4 - 1)), (5, .long (1023)), (3, .double p0), (0, va_rf (some this)), (1, .double p0)]) X.1 X.2.1 dX7_bitsOfSize_57 hl (by decide) (by simp [ab_cat, ab_cI, ab_cJ, ab_cD, ab_cF]) (fun ls hl => ?_)
      exact w_X7_bitsOfSize_59 X hr  fuelN _ _ _ _ _ _ _ _ S (lv_sub hl [3, 2, 1, 0] rfl) hF
    · have hF := ab_neg c2 hF
      refine lv_dload_n X.1 X.2.1 dX7_bitsOfSize_20 rfl (lv_at hl 1 rfl) ?_
      refine ab_aload_n X dX7_bitsOfSize_21 rfl (lv_at hl 0 rfl) ?_
      refine ab_getR X S hF fi_7_0 lf_X7_9 dX7_bitsOfSize_22 (fun x5 hF => ?_)
      refine lv_bipush (v := 9) X.1 X.2.1 dX7_bitsOfSize_25 (by decide) ?_
      refine ab_aldD X S hF dX7_bitsOfSize_27 (fun x6 hF => ?_)
      obtain ⟨x7, ev, ne, hF⟩ := ab_fopx hF
      refine lv_dmul X.1 X.2.1 dX7_bitsOfSize_28 ne ?_
      rw [ev]
      refine ab_aload_n X dX7_bitsOfSize_29 rfl (lv_at hl 0 rfl) ?_
      refine ab_getR X S hF fi_7_0 lf_X7_9 dX7_bitsOfSize_30 (fun x8 hF => ?_)
      refine lv_bipush (v := 9) X.1 X.2.1 dX7_bitsOfSize_33 (by decide) ?_
      refine ab_aldD X S hF dX7_bitsOfSize_35 (fun x9 hF => ?_)
      obtain ⟨x10, ev, ne, hF⟩ := ab_fopx hF
      refine lv_dmul X.1 X.2.1 dX7_bitsOfSize_36 ne ?_
      rw [ev]
      refine lv_ldc2d (v := 4832362400168542208) X.1 X.2.1 X.2.2.2.1 (X.2.2.2.2.1 _ ld_X7_43) dX7_bitsOfSize_37 ?_
      obtain ⟨x11, ev, ne, hF⟩ := ab_fopx hF
      refine lv_dmul X.1 X.2.1 dX7_bitsOfSize_40 ne ?_
      rw [ev]
      refine lv_d2l X.1 X.2.1 dX7_bitsOfSize_41 ?_
      exact ab_lret X S hr hF dX7_bitsOfSize_42
  · have hF := ab_neg c1 hF
    refine lv_ldc2 (v := (9218868437227405312)) X.1 X.2.1 X.2.2.2.1 (X.2.2.2.2.1 _ ll_X7_39) dX7_bitsOfSize_8 ?_
    exact ab_lret X S hr hF dX7_bitsOfSize_11
