def f_X6_third_144  : Nat → Option Nat → Int32 → Hp → Option (Int32 × Hp)
  | 0, _, _, _ => none
  | n + 1, v0, v3, h => (getR h v0 6 1).bind fun x1 =>
    (getI h x1 1 1).bind fun x2 =>
    if x2 ≤ v3 then
      if 1 = 0 ∨ 1 = 1 then some (1, h) else none
    else
      (getR h v0 6 0).bind fun x4 =>
      (ab_ck h x4 (2, 0)).bind fun a8 =>
      bnd (f_X2_begin a8 h) fun _ h6 =>
      (getR h6 v0 6 0).bind fun x10 =>
      (getR h6 v0 6 9).bind fun x11 =>
      (aldR h6 x11 14 0).bind fun x12 =>
      (getR h6 x12 3 0).bind fun x13 =>
      (aldD h6 x13 v3).bind fun x14 =>
      (getR h6 v0 6 9).bind fun x15 =>
      (aldR h6 x15 14 1).bind fun x16 =>
      (getR h6 x16 3 0).bind fun x17 =>
      (aldD h6 x17 v3).bind fun x18 =>
      (fop (FP.dmul 4616189618054758400 x18)).bind fun x19 =>
      (ab_ck h6 x10 (2, 0)).bind fun a23 =>
      bnd (f_X2_sum a23 x14 x19 h6) fun x20 h21 =>
      (getR h21 v0 6 0).bind fun x25 =>
      (getR h21 v0 6 9).bind fun x26 =>
      (aldR h21 x26 14 2).bind fun x27 =>
      (getR h21 x27 3 0).bind fun x28 =>
      (aldD h21 x28 v3).bind fun x29 =>
      (ab_ck h21 x25 (2, 0)).bind fun a33 =>
      bnd (f_X2_sum a33 x20 x29 h21) fun x30 h31 =>
      (getR h31 v0 6 8).bind fun x35 =>
      (getR h31 v0 6 6).bind fun x36 =>
      (getD h31 v0 6 4).bind fun x37 =>
      (fop (FP.ddiv x37 4618441417868443648)).bind fun x38 =>
      (ab_ck h31 v0 (6, 0)).bind fun a42 =>
      bnd (f_X6_arrive a42 x35 v3 x36 x38 x30 h31) fun _ h40 =>
      f_X6_third_144 n v0 (v3 + 1) h40
set_option maxHeartbeats 4000000 in
set_option maxRecDepth 100000 in
theorem w_X6_third_144 {p : Program} {l : Launch} {e : Env} {s : State} {m : MethodId} {args : Array Value} {below : List Frame} {meth : Method} {c : Code} {D : va_G} {cA : Nat → ClassId} {sz : Nat} {rr : Int32} {hh : Hp}  (X : ab_X p s m args meth c cX6_third 6 RX6 D cA sz) (hr : meth.sig.returnType = (some .boolean))  (n : Nat) : ∀ (v0 : Option Nat) (v3 : Int32) (h : Hp) (H : Heap) (locs : List Loc) (ls : Array Slot), ab_H D cA sz h s H locs → lv_has ls 6 [(0, va_rf v0), (3, .int v3)] → f_X6_third_144 n v0 v3 h = some (rr, hh) → W p l e (ab_rm 4 0 0) s m args below meth c H locs 0 0 (MQ below (ab_Q D cA sz (some (.int rr)) hh) args s 0 0 (fun q => sz ≤ q)) (F0 m 144 ls []) := by
  induction n with
  | zero => intro v0 v3 h H locs ls S hl hF; cases hF
  | succ n ih =>
    intro v0 v3 h H locs ls S hl hF
    rw [f_X6_third_144] at hF
    refine lv_iload_n X.1 X.2.1 dX6_third_144 rfl (lv_at hl 1 rfl) ?_
    refine ab_aload_n X dX6_third_145 rfl (lv_at hl 0 rfl) ?_
    refine ab_getR X S hF fi_6_1 lf_X6_40 dX6_third_146 (fun x1 hF => ?_)
    refine ab_getI X S hF fi_1_1 lf_X6_95 dX6_third_149 (fun x2 hF => ?_)
    refine lv_icmp_ge (tgt := 248) X.1 X.2.1 dX6_third_152 (by decide) (fun c3 => ?_) (fun c3 => ?_)
    · have hF := ab_pos c3 hF
      refine lv_iconst (v := 1) X.1 X.2.1 dX6_third_248 (by decide) ?_
      exact ab_zret X S hr hF dX6_third_249
    · have hF := ab_neg c3 hF
      refine ab_aload_n X dX6_third_155 rfl (lv_at hl 0 rfl) ?_
      refine ab_getR X S hF fi_6_0 lf_X6_9 dX6_third_156 (fun x4 hF => ?_)
      obtain ⟨a8, e9, hF⟩ := bind_out hF
      obtain ⟨x5, h6, e7, hF⟩ := bnd_out hF
      refine ab_callVv X S e9 (c_X2_begin l D cA sz e7) rfl (by decide) mi_X2_begin lm_X6_141 li_yX2_begin ls_yX2_begin (As := []) (rest := []) rfl ⟨by decide, by decide⟩ ⟨(by decide), (by decide)⟩ hl.1 rfl (by simp [ab_cat, ab_cI, ab_cJ, ab_cD, ab_cF]) dX6_third_159 (fun H1 locs1 S => ?_)
      refine ab_aload_n X dX6_third_162 rfl (lv_at hl 0 rfl) ?_
      refine ab_getR X S hF fi_6_0 lf_X6_9 dX6_third_163 (fun x10 hF => ?_)
      refine ab_aload_n X dX6_third_166 rfl (lv_at hl 0 rfl) ?_
      refine ab_getR X S hF fi_6_9 lf_X6_30 dX6_third_167 (fun x11 hF => ?_)
      refine lv_iconst (v := 0) X.1 X.2.1 dX6_third_170 (by decide) ?_
      refine ab_aldR X S hF rfl (by decide) dX6_third_171 (fun x12 hF => ?_)
      refine ab_getR X S hF fi_3_0 lf_X6_144 dX6_third_172 (fun x13 hF => ?_)
      refine lv_iload_n X.1 X.2.1 dX6_third_175 rfl (lv_at hl 1 rfl) ?_
      refine ab_aldD X S hF dX6_third_176 (fun x14 hF => ?_)
      refine lv_ldc2d (v := 4616189618054758400) X.1 X.2.1 X.2.2.2.1 (X.2.2.2.2.1 _ ld_X6_157) dX6_third_177 ?_
      refine ab_aload_n X dX6_third_180 rfl (lv_at hl 0 rfl) ?_
      refine ab_getR X S hF fi_6_9 lf_X6_30 dX6_third_181 (fun x15 hF => ?_)
      refine lv_iconst (v := 1) X.1 X.2.1 dX6_third_184 (by decide) ?_
      refine ab_aldR X S hF rfl (by decide) dX6_third_185 (fun x16 hF => ?_)
      refine ab_getR X S hF fi_3_0 lf_X6_144 dX6_third_186 (fun x17 hF => ?_)
      refine lv_iload_n X.1 X.2.1 dX6_third_189 rfl (lv_at hl 1 rfl) ?_
      refine ab_aldD X S hF dX6_third_190 (fun x18 hF => ?_)
      obtain ⟨x19, ev, ne, hF⟩ := ab_fopx hF
      refine lv_dmul X.1 X.2.1 dX6_third_191 ne ?_
      rw [ev]
      obtain ⟨a23, e24, hF⟩ := bind_out hF
      obtain ⟨x20, h21, e22, hF⟩ := bnd_out hF
      refine ab_callVd X S e24 (c_X2_sum l D cA sz e22) rfl (by decide) mi_X2_sum lm_X6_127 li_yX2_sum ls_yX2_sum (As := [.double x14, .double x19]) (rest := []) rfl ⟨by decide, by decide⟩ ⟨(by decide), (by decide)⟩ hl.1 rfl (by simp [ab_cat, ab_cI, ab_cJ, ab_cD, ab_cF]) dX6_third_192 (fun H1 locs1 S => ?_)
      refine lv_dstore (lv' := [(4, .double x20), (0, va_rf v0), (3, .int v3)]) X.1 X.2.1 dX6_third_195 hl (by decide) (by simp [ab_cat, ab_cI, ab_cJ, ab_cD, ab_cF]) (fun ls hl => ?_)
      refine ab_aload_n X dX6_third_197 rfl (lv_at hl 1 rfl) ?_
      refine ab_getR X S hF fi_6_0 lf_X6_9 dX6_third_198 (fun x25 hF => ?_)
      refine lv_dload X.1 X.2.1 dX6_third_201 (lv_at hl 0 rfl) ?_
      refine ab_aload_n X dX6_third_203 rfl (lv_at hl 1 rfl) ?_
      refine ab_getR X S hF fi_6_9 lf_X6_30 dX6_third_204 (fun x26 hF => ?_)
      refine lv_iconst (v := 2) X.1 X.2.1 dX6_third_207 (by decide) ?_
      refine ab_aldR X S hF rfl (by decide) dX6_third_208 (fun x27 hF => ?_)
      refine ab_getR X S hF fi_3_0 lf_X6_144 dX6_third_209 (fun x28 hF => ?_)
      refine lv_iload_n X.1 X.2.1 dX6_third_212 rfl (lv_at hl 2 rfl) ?_
      refine ab_aldD X S hF dX6_third_213 (fun x29 hF => ?_)
      obtain ⟨a33, e34, hF⟩ := bind_out hF
      obtain ⟨x30, h31, e32, hF⟩ := bnd_out hF
      refine ab_callVd X S e34 (c_X2_sum l D cA sz e32) rfl (by decide) mi_X2_sum lm_X6_127 li_yX2_sum ls_yX2_sum (As := [.double x20, .double x29]) (rest := []) rfl ⟨by decide, by decide⟩ ⟨(by decide), (by decide)⟩ hl.1 rfl (by simp [ab_cat, ab_cI, ab_cJ, ab_cD, ab_cF]) dX6_third_214 (fun H1 locs1 S => ?_)
      refine lv_dstore (lv' := [(4, .double x30), (0, va_rf v0), (3, .int v3)]) X.1 X.2.1 dX6_third_217 hl (by decide) (by simp [ab_cat, ab_cI, ab_cJ, ab_cD, ab_cF]) (fun ls hl => ?_)
      refine ab_aload_n X dX6_third_219 rfl (lv_at hl 1 rfl) ?_
      refine ab_aload_n X dX6_third_220 rfl (lv_at hl 1 rfl) ?_
      refine ab_getR X S hF fi_6_8 lf_X6_27 dX6_third_221 (fun x35 hF => ?_)
      refine lv_iload_n X.1 X.2.1 dX6_third_224 rfl (lv_at hl 2 rfl) ?_
      refine ab_aload_n X dX6_third_225 rfl (lv_at hl 1 rfl) ?_
      refine ab_getR X S hF fi_6_6 lf_X6_20 dX6_third_226 (fun x36 hF => ?_)
      refine ab_aload_n X dX6_third_229 rfl (lv_at hl 1 rfl) ?_
      refine ab_getD X S hF fi_6_4 lf_X6_52 dX6_third_230 (fun x37 hF => ?_)
      refine lv_ldc2d (v := 4618441417868443648) X.1 X.2.1 X.2.2.2.1 (X.2.2.2.2.1 _ ld_X6_159) dX6_third_233 ?_
      obtain ⟨x38, ev, ne, hF⟩ := ab_fopx hF
      refine lv_ddiv X.1 X.2.1 dX6_third_236 ne ?_
      rw [ev]
      refine lv_dload X.1 X.2.1 dX6_third_237 (lv_at hl 0 rfl) ?_
      obtain ⟨a42, e43, hF⟩ := bind_out hF
      obtain ⟨x39, h40, e41, hF⟩ := bnd_out hF
      refine ab_callVv X S e43 (c_X6_arrive l D cA sz e41) rfl (by decide) mi_X6_arrive lm_X6_148 li_yX6_arrive ls_yX6_arrive (As := [va_rf x35, .int v3, va_rf x36, .double x38, .double x30]) (rest := []) rfl ⟨by decide, by decide⟩ ⟨(by decide), (by decide)⟩ hl.1 rfl (by simp [ab_cat, ab_cI, ab_cJ, ab_cD, ab_cF]) dX6_third_239 (fun H1 locs1 S => ?_)
      refine lv_iinc (v := v3 + 1) (lv' := [(3, .int (v3 + 1)), (4, .double x30), (0, va_rf v0)]) X.1 X.2.1 dX6_third_242 hl (k := 2) rfl (by rfl) (by decide) (by simp [ab_cat, ab_cI, ab_cJ, ab_cD, ab_cF]) (fun ls hl => ?_)
      refine lv_goto (tgt := 144) X.1 X.2.1 dX6_third_245 (by decide) ?_
      exact ih _ _ _ _ _ _ S (lv_sub hl [2, 0] rfl) hF
def f_X6_third_41  : Nat → Option Nat → Int32 → Hp → Option (Int32 × Hp)
  | 0, _, _, _ => none
  | n + 1, v0, v3, h => (getR h v0 6 1).bind fun x1 =>
    (getI h x1 1 1).bind fun x2 =>
    if x2 ≤ v3 then
      (getD h v0 6 3).bind fun x4 =>
      (getD h v0 6 4).bind fun x5 =>
      (fop (FP.dadd x4 x5)).bind fun x6 =>
      (getR h v0 6 7).bind fun x7 =>
      (ab_ck h v0 (6, 0)).bind fun a11 =>
      bnd (f_X6_slope a11 2 x6 x7 h) fun x8 h9 =>
      if ¬ x8 = 0 then
        f_X6_third_144 fuelN v0 0 h9
      else
        if 0 = 0 ∨ 0 = 1 then some (0, h9) else none
    else
      (getR h v0 6 0).bind fun x14 =>
      (ab_ck h x14 (2, 0)).bind fun a18 =>
      bnd (f_X2_begin a18 h) fun _ h16 =>
      (getR h16 v0 6 0).bind fun x20 =>
      (getR h16 v0 6 9).bind fun x21 =>
      (aldR h16 x21 14 1).bind fun x22 =>
      (getR h16 x22 3 0).bind fun x23 =>
      (aldD h16 x23 v3).bind fun x24 =>
      (fop (FP.dmul 4611686018427387904 x24)).bind fun x25 =>
      (getR h16 v0 6 9).bind fun x26 =>
      (aldR h16 x26 14 0).bind fun x27 =>
      (getR h16 x27 3 0).bind fun x28 =>
      (aldD h16 x28 v3).bind fun x29 =>
      (ab_ck h16 x20 (2, 0)).bind fun a33 =>
      bnd (f_X2_difference a33 x25 x29 h16) fun x30 h31 =>
      (getR h31 v0 6 7).bind fun x35 =>
      (getR h31 v0 6 6).bind fun x36 =>
      (getD h31 v0 6 4).bind fun x37 =>
      (ab_ck h31 v0 (6, 0)).bind fun a41 =>
      bnd (f_X6_arrive a41 x35 v3 x36 x37 x30 h31) fun _ h39 =>
      f_X6_third_41 n v0 (v3 + 1) h39
set_option maxHeartbeats 4000000 in
set_option maxRecDepth 100000 in
theorem w_X6_third_41 {p : Program} {l : Launch} {e : Env} {s : State} {m : MethodId} {args : Array Value} {below : List Frame} {meth : Method} {c : Code} {D : va_G} {cA : Nat → ClassId} {sz : Nat} {rr : Int32} {hh : Hp}  (X : ab_X p s m args meth c cX6_third 6 RX6 D cA sz) (hr : meth.sig.returnType = (some .boolean))  (n : Nat) : ∀ (v0 : Option Nat) (v3 : Int32) (h : Hp) (H : Heap) (locs : List Loc) (ls : Array Slot), ab_H D cA sz h s H locs → lv_has ls 6 [(0, va_rf v0), (3, .int v3)] → f_X6_third_41 n v0 v3 h = some (rr, hh) → W p l e (ab_rm 4 0 0) s m args below meth c H locs 0 0 (MQ below (ab_Q D cA sz (some (.int rr)) hh) args s 0 0 (fun q => sz ≤ q)) (F0 m 41 ls []) := by
  induction n with
  | zero => intro v0 v3 h H locs ls S hl hF; cases hF
  | succ n ih =>
    intro v0 v3 h H locs ls S hl hF
    rw [f_X6_third_41] at hF
    refine lv_iload_n X.1 X.2.1 dX6_third_41 rfl (lv_at hl 1 rfl) ?_
    refine ab_aload_n X dX6_third_42 rfl (lv_at hl 0 rfl) ?_
    refine ab_getR X S hF fi_6_1 lf_X6_40 dX6_third_43 (fun x1 hF => ?_)
    refine ab_getI X S hF fi_1_1 lf_X6_95 dX6_third_46 (fun x2 hF => ?_)
    refine lv_icmp_ge (tgt := 119) X.1 X.2.1 dX6_third_49 (by decide) (fun c3 => ?_) (fun c3 => ?_)
    · have hF := ab_pos c3 hF
      refine ab_aload_n X dX6_third_119 rfl (lv_at hl 0 rfl) ?_
      refine lv_iconst (v := 2) X.1 X.2.1 dX6_third_120 (by decide) ?_
      refine ab_aload_n X dX6_third_121 rfl (lv_at hl 0 rfl) ?_
      refine ab_getD X S hF fi_6_3 lf_X6_48 dX6_third_122 (fun x4 hF => ?_)
      refine ab_aload_n X dX6_third_125 rfl (lv_at hl 0 rfl) ?_
      refine ab_getD X S hF fi_6_4 lf_X6_52 dX6_third_126 (fun x5 hF => ?_)
      obtain ⟨x6, ev, ne, hF⟩ := ab_fopx hF
      refine lv_dadd X.1 X.2.1 dX6_third_129 ne ?_
      rw [ev]
      refine ab_aload_n X dX6_third_130 rfl (lv_at hl 0 rfl) ?_
      refine ab_getR X S hF fi_6_7 lf_X6_24 dX6_third_131 (fun x7 hF => ?_)
      obtain ⟨a11, e12, hF⟩ := bind_out hF
      obtain ⟨x8, h9, e10, hF⟩ := bnd_out hF
      refine ab_callVi X S e12 (c_X6_slope l D cA sz e10) rfl (by decide) mi_X6_slope lm_X6_68 li_yX6_slope ls_yX6_slope (As := [.int 2, .double x6, va_rf x7]) (rest := []) rfl ⟨by decide, by decide⟩ ⟨(by decide), (by decide)⟩ hl.1 rfl (by simp [ab_cat, ab_cI, ab_cJ, ab_cD, ab_cF]) dX6_third_134 (fun H1 locs1 S => ?_)
      refine lv_if_ne (tgt := 142) X.1 X.2.1 dX6_third_137 (by decide) (fun c13 => ?_) (fun c13 => ?_)
      · have hF := ab_pos c13 hF
        refine lv_iconst (v := 0) X.1 X.2.1 dX6_third_142 (by decide) ?_
        refine lv_istore_n (i := 3) (lv' := [(3, .int 0), (0, va_rf v0)]) X.1 X.2.1 dX6_third_143 rfl hl (by decide) (by simp [ab_cat, ab_cI, ab_cJ, ab_cD, ab_cF]) (fun ls hl => ?_)
        exact w_X6_third_144 X hr  fuelN _ _ _ _ _ _ S (lv_sub hl [1, 0] rfl) hF
      · have hF := ab_neg (fun q => q c13) hF
        refine lv_iconst (v := 0) X.1 X.2.1 dX6_third_140 (by decide) ?_
        exact ab_zret X S hr hF dX6_third_141
    · have hF := ab_neg c3 hF
      refine ab_aload_n X dX6_third_52 rfl (lv_at hl 0 rfl) ?_
      refine ab_getR X S hF fi_6_0 lf_X6_9 dX6_third_53 (fun x14 hF => ?_)
      obtain ⟨a18, e19, hF⟩ := bind_out hF
      obtain ⟨x15, h16, e17, hF⟩ := bnd_out hF
      refine ab_callVv X S e19 (c_X2_begin l D cA sz e17) rfl (by decide) mi_X2_begin lm_X6_141 li_yX2_begin ls_yX2_begin (As := []) (rest := []) rfl ⟨by decide, by decide⟩ ⟨(by decide), (by decide)⟩ hl.1 rfl (by simp [ab_cat, ab_cI, ab_cJ, ab_cD, ab_cF]) dX6_third_56 (fun H1 locs1 S => ?_)
      refine ab_aload_n X dX6_third_59 rfl (lv_at hl 0 rfl) ?_
      refine ab_getR X S hF fi_6_0 lf_X6_9 dX6_third_60 (fun x20 hF => ?_)
      refine lv_ldc2d (v := 4611686018427387904) X.1 X.2.1 X.2.2.2.1 (X.2.2.2.2.1 _ ld_X6_152) dX6_third_63 ?_
      refine ab_aload_n X dX6_third_66 rfl (lv_at hl 0 rfl) ?_
      refine ab_getR X S hF fi_6_9 lf_X6_30 dX6_third_67 (fun x21 hF => ?_)
      refine lv_iconst (v := 1) X.1 X.2.1 dX6_third_70 (by decide) ?_
      refine ab_aldR X S hF rfl (by decide) dX6_third_71 (fun x22 hF => ?_)
      refine ab_getR X S hF fi_3_0 lf_X6_144 dX6_third_72 (fun x23 hF => ?_)
      refine lv_iload_n X.1 X.2.1 dX6_third_75 rfl (lv_at hl 1 rfl) ?_
      refine ab_aldD X S hF dX6_third_76 (fun x24 hF => ?_)
      obtain ⟨x25, ev, ne, hF⟩ := ab_fopx hF
      refine lv_dmul X.1 X.2.1 dX6_third_77 ne ?_
      rw [ev]
      refine ab_aload_n X dX6_third_78 rfl (lv_at hl 0 rfl) ?_
      refine ab_getR X S hF fi_6_9 lf_X6_30 dX6_third_79 (fun x26 hF => ?_)
      refine lv_iconst (v := 0) X.1 X.2.1 dX6_third_82 (by decide) ?_
      refine ab_aldR X S hF rfl (by decide) dX6_third_83 (fun x27 hF => ?_)
      refine ab_getR X S hF fi_3_0 lf_X6_144 dX6_third_84 (fun x28 hF => ?_)
      refine lv_iload_n X.1 X.2.1 dX6_third_87 rfl (lv_at hl 1 rfl) ?_
      refine ab_aldD X S hF dX6_third_88 (fun x29 hF => ?_)
      obtain ⟨a33, e34, hF⟩ := bind_out hF
      obtain ⟨x30, h31, e32, hF⟩ := bnd_out hF
      refine ab_callVd X S e34 (c_X2_difference l D cA sz e32) rfl (by decide) mi_X2_difference lm_X6_154 li_yX2_difference ls_yX2_difference (As := [.double x25, .double x29]) (rest := []) rfl ⟨by decide, by decide⟩ ⟨(by decide), (by decide)⟩ hl.1 rfl (by simp [ab_cat, ab_cI, ab_cJ, ab_cD, ab_cF]) dX6_third_89 (fun H1 locs1 S => ?_)
      refine lv_dstore (lv' := [(4, .double x30), (0, va_rf v0), (3, .int v3)]) X.1 X.2.1 dX6_third_92 hl (by decide) (by simp [ab_cat, ab_cI, ab_cJ, ab_cD, ab_cF]) (fun ls hl => ?_)
      refine ab_aload_n X dX6_third_94 rfl (lv_at hl 1 rfl) ?_
      refine ab_aload_n X dX6_third_95 rfl (lv_at hl 1 rfl) ?_
      refine ab_getR X S hF fi_6_7 lf_X6_24 dX6_third_96 (fun x35 hF => ?_)
      refine lv_iload_n X.1 X.2.1 dX6_third_99 rfl (lv_at hl 2 rfl) ?_
      refine ab_aload_n X dX6_third_100 rfl (lv_at hl 1 rfl) ?_
      refine ab_getR X S hF fi_6_6 lf_X6_20 dX6_third_101 (fun x36 hF => ?_)
      refine ab_aload_n X dX6_third_104 rfl (lv_at hl 1 rfl) ?_
      refine ab_getD X S hF fi_6_4 lf_X6_52 dX6_third_105 (fun x37 hF => ?_)
      refine lv_dload X.1 X.2.1 dX6_third_108 (lv_at hl 0 rfl) ?_
      obtain ⟨a41, e42, hF⟩ := bind_out hF
      obtain ⟨x38, h39, e40, hF⟩ := bnd_out hF
      refine ab_callVv X S e42 (c_X6_arrive l D cA sz e40) rfl (by decide) mi_X6_arrive lm_X6_148 li_yX6_arrive ls_yX6_arrive (As := [va_rf x35, .int v3, va_rf x36, .double x37, .double x30]) (rest := []) rfl ⟨by decide, by decide⟩ ⟨(by decide), (by decide)⟩ hl.1 rfl (by simp [ab_cat, ab_cI, ab_cJ, ab_cD, ab_cF]) dX6_third_110 (fun H1 locs1 S => ?_)
      refine lv_iinc (v := v3 + 1) (lv' := [(3, .int (v3 + 1)), (4, .double x30), (0, va_rf v0)]) X.1 X.2.1 dX6_third_113 hl (k := 2) rfl (by rfl) (by decide) (by simp [ab_cat, ab_cI, ab_cJ, ab_cD, ab_cF]) (fun ls hl => ?_)
      refine lv_goto (tgt := 41) X.1 X.2.1 dX6_third_116 (by decide) ?_
      exact ih _ _ _ _ _ _ S (lv_sub hl [2, 0] rfl) hF
def f_X6_third (this : Nat) (h : Hp) : Option (Int32 × Hp) :=
  (getD h (some this) 6 4).bind fun x1 =>
  (fop (FP.ddiv x1 4611686018427387904)).bind fun x2 =>
  (getR h (some this) 6 7).bind fun x3 =>
  (ab_ck h (some this) (6, 0)).bind fun a7 =>
  bnd (f_X6_move a7 x3 x2 0 h) fun _ h5 =>
  (getD h5 (some this) 6 3).bind fun x9 =>
  (fop (FP.dadd x9 x2)).bind fun x10 =>
  (getR h5 (some this) 6 7).bind fun x11 =>
  (ab_ck h5 (some this) (6, 0)).bind fun a15 =>
  bnd (f_X6_slope a15 1 x10 x11 h5) fun x12 h13 =>
  if ¬ x12 = 0 then
    f_X6_third_41 fuelN (some this) 0 h13
  else
    if 0 = 0 ∨ 0 = 1 then some (0, h13) else none
theorem mi_X6_third : ab_MI yX6_third cX6_third 6 (some .boolean) 0 := ⟨lc_yX6_third, lz_RX6, by decide, by decide, by decide +kernel⟩
set_option maxHeartbeats 4000000 in
set_option maxRecDepth 100000 in
theorem c_X6_third (l : Launch) (D : va_G) (cA : Nat → ClassId) (sz : Nat) {this : Nat} {h hh : Hp} {rr : Int32} (hF : f_X6_third this h = some (rr, hh)) : ab_C l D cA sz yX6_third cX6_third 6 (some .boolean) 4 0 0 [.ref this] h (some (.int rr)) hh := by
  refine Met.ofW (cc := cX6_third) (maxL := 6) (ret := (some .boolean)) (by decide) rfl ?_
  intro p e s m args below meth c s₁ B hml hv
  obtain ⟨rfl, hT, hR⟩ := hv
  have X : ab_X p s m _ meth c cX6_third 6 RX6 D cA sz := (ab_enter B hml hT hR).1
  have S := (ab_enter B hml hT hR).2
  have hr := B.returns
  obtain ⟨ls, hls, hl⟩ := ab_entry m [.ref this] 6 (lv := [(0, .ref this)]) (by simp [lg_sl, ab_cat, ab_cI, ab_cJ, ab_cD, ab_cF, ab_cA]) (by simp [lv_args, ab_cat, ab_cI, ab_cJ, ab_cD, ab_cF, ab_cA])
  rw [hls]
  have hl : lv_has ls 6 [(0, va_rf (some this))] := hl
  unfold f_X6_third at hF
  show W p l e (ab_rm 4 0 0) s m _ below meth c s.heap [] 0 0 _ _
  refine ab_aload_n X dX6_third_0 rfl (lv_at hl 0 rfl) ?_
  refine ab_getD X S hF fi_6_4 lf_X6_52 dX6_third_1 (fun x1 hF => ?_)
  refine lv_ldc2d (v := 4611686018427387904) X.1 X.2.1 X.2.2.2.1 (X.2.2.2.2.1 _ ld_X6_152) dX6_third_4 ?_
  obtain ⟨x2, ev, ne, hF⟩ := ab_fopx hF
  refine lv_ddiv X.1 X.2.1 dX6_third_7 ne ?_
  rw [ev]
  refine lv_dstore_n (i := 1) (lv' := [(1, .double x2), (0, va_rf (some this))]) X.1 X.2.1 dX6_third_8 rfl hl (by decide) (by simp [ab_cat, ab_cI, ab_cJ, ab_cD, ab_cF]) (fun ls hl => ?_)
  refine ab_aload_n X dX6_third_9 rfl (lv_at hl 1 rfl) ?_
  refine ab_aload_n X dX6_third_10 rfl (lv_at hl 1 rfl) ?_
  refine ab_getR X S hF fi_6_7 lf_X6_24 dX6_third_11 (fun x3 hF => ?_)
  refine lv_dload_n X.1 X.2.1 dX6_third_14 rfl (lv_at hl 0 rfl) ?_
  refine lv_iconst (v := 0) X.1 X.2.1 dX6_third_15 (by decide) ?_
  obtain ⟨a7, e8, hF⟩ := bind_out hF
  obtain ⟨x4, h5, e6, hF⟩ := bnd_out hF
  refine ab_callVv X S e8 (c_X6_move l D cA sz e6) rfl (by decide) mi_X6_move lm_X6_72 li_yX6_move ls_yX6_move (As := [va_rf x3, .double x2, .int 0]) (rest := []) rfl ⟨by decide, by decide⟩ ⟨(by decide), (by decide)⟩ hl.1 rfl (by simp [ab_cat, ab_cI, ab_cJ, ab_cD, ab_cF]) dX6_third_16 (fun H1 locs1 S => ?_)
  refine ab_aload_n X dX6_third_19 rfl (lv_at hl 1 rfl) ?_
  refine lv_iconst (v := 1) X.1 X.2.1 dX6_third_20 (by decide) ?_
  refine ab_aload_n X dX6_third_21 rfl (lv_at hl 1 rfl) ?_
  refine ab_getD X S hF fi_6_3 lf_X6_48 dX6_third_22 (fun x9 hF => ?_)
  refine lv_dload_n X.1 X.2.1 dX6_third_25 rfl (lv_at hl 0 rfl) ?_
  obtain ⟨x10, ev, ne, hF⟩ := ab_fopx hF
  refine lv_dadd X.1 X.2.1 dX6_third_26 ne ?_
  rw [ev]
  refine ab_aload_n X dX6_third_27 rfl (lv_at hl 1 rfl) ?_
  refine ab_getR X S hF fi_6_7 lf_X6_24 dX6_third_28 (fun x11 hF => ?_)
  obtain ⟨a15, e16, hF⟩ := bind_out hF
  obtain ⟨x12, h13, e14, hF⟩ := bnd_out hF
  refine ab_callVi X S e16 (c_X6_slope l D cA sz e14) rfl (by decide) mi_X6_slope lm_X6_68 li_yX6_slope ls_yX6_slope (As := [.int 1, .double x10, va_rf x11]) (rest := []) rfl ⟨by decide, by decide⟩ ⟨(by decide), (by decide)⟩ hl.1 rfl (by simp [ab_cat, ab_cI, ab_cJ, ab_cD, ab_cF]) dX6_third_31 (fun H1 locs1 S => ?_)
  refine lv_if_ne (tgt := 39) X.1 X.2.1 dX6_third_34 (by decide) (fun c17 => ?_) (fun c17 => ?_)
  · have hF := ab_pos c17 hF
    refine lv_iconst (v := 0) X.1 X.2.1 dX6_third_39 (by decide) ?_
    refine lv_istore_n (i := 3) (lv' := [(3, .int 0), (1, .double x2), (0, va_rf (some this))]) X.1 X.2.1 dX6_third_40 rfl hl (by decide) (by simp [ab_cat, ab_cI, ab_cJ, ab_cD, ab_cF]) (fun ls hl => ?_)
    exact w_X6_third_41 X hr  fuelN _ _ _ _ _ _ S (lv_sub hl [2, 0] rfl) hF
  · have hF := ab_neg (fun q => q c17) hF
    refine lv_iconst (v := 0) X.1 X.2.1 dX6_third_37 (by decide) ?_
    exact ab_zret X S hr hF dX6_third_38
def f_X6_fourth_107  : Nat → Option Nat → Int32 → Hp → Option (Int32 × Hp)
  | 0, _, _, _ => none
  | n + 1, v0, v3, h => (getR h v0 6 1).bind fun x1 =>
    (getI h x1 1 1).bind fun x2 =>
    if x2 ≤ v3 then
      if 1 = 0 ∨ 1 = 1 then some (1, h) else none
    else
      (getR h v0 6 0).bind fun x4 =>
      (ab_ck h x4 (2, 0)).bind fun a8 =>
      bnd (f_X2_begin a8 h) fun _ h6 =>
      (getR h6 v0 6 0).bind fun x10 =>
      (getR h6 v0 6 9).bind fun x11 =>
      (aldR h6 x11 14 0).bind fun x12 =>
      (getR h6 x12 3 0).bind fun x13 =>
      (aldD h6 x13 v3).bind fun x14 =>
      (getR h6 v0 6 9).bind fun x15 =>
      (aldR h6 x15 14 1).bind fun x16 =>
      (getR h6 x16 3 0).bind fun x17 =>
      (aldD h6 x17 v3).bind fun x18 =>
      (fop (FP.dmul 4611686018427387904 x18)).bind fun x19 =>
      (ab_ck h6 x10 (2, 0)).bind fun a23 =>
      bnd (f_X2_sum a23 x14 x19 h6) fun x20 h21 =>
      (getR h21 v0 6 0).bind fun x25 =>
      (getR h21 v0 6 9).bind fun x26 =>
      (aldR h21 x26 14 2).bind fun x27 =>
      (getR h21 x27 3 0).bind fun x28 =>
      (aldD h21 x28 v3).bind fun x29 =>
      (fop (FP.dmul 4611686018427387904 x29)).bind fun x30 =>
      (ab_ck h21 x25 (2, 0)).bind fun a34 =>
      bnd (f_X2_sum a34 x20 x30 h21) fun x31 h32 =>
      (getR h32 v0 6 0).bind fun x36 =>
      (getR h32 v0 6 9).bind fun x37 =>
      (aldR h32 x37 14 3).bind fun x38 =>
      (getR h32 x38 3 0).bind fun x39 =>
      (aldD h32 x39 v3).bind fun x40 =>
      (ab_ck h32 x36 (2, 0)).bind fun a44 =>
      bnd (f_X2_sum a44 x31 x40 h32) fun x41 h42 =>
      (getR h42 v0 6 8).bind fun x46 =>
      (getR h42 v0 6 6).bind fun x47 =>
      (getD h42 v0 6 4).bind fun x48 =>
      (fop (FP.ddiv x48 4618441417868443648)).bind fun x49 =>
      (ab_ck h42 v0 (6, 0)).bind fun a53 =>
      bnd (f_X6_arrive a53 x46 v3 x47 x49 x41 h42) fun _ h51 =>
      f_X6_fourth_107 n v0 (v3 + 1) h51
set_option maxHeartbeats 4000000 in
set_option maxRecDepth 100000 in
theorem w_X6_fourth_107 {p : Program} {l : Launch} {e : Env} {s : State} {m : MethodId} {args : Array Value} {below : List Frame} {meth : Method} {c : Code} {D : va_G} {cA : Nat → ClassId} {sz : Nat} {rr : Int32} {hh : Hp}  (X : ab_X p s m args meth c cX6_fourth 6 RX6 D cA sz) (hr : meth.sig.returnType = (some .boolean))  (n : Nat) : ∀ (v0 : Option Nat) (v3 : Int32) (h : Hp) (H : Heap) (locs : List Loc) (ls : Array Slot), ab_H D cA sz h s H locs → lv_has ls 6 [(0, va_rf v0), (3, .int v3)] → f_X6_fourth_107 n v0 v3 h = some (rr, hh) → W p l e (ab_rm 4 0 0) s m args below meth c H locs 0 0 (MQ below (ab_Q D cA sz (some (.int rr)) hh) args s 0 0 (fun q => sz ≤ q)) (F0 m 107 ls []) := by
  induction n with
  | zero => intro v0 v3 h H locs ls S hl hF; cases hF
  | succ n ih =>
    intro v0 v3 h H locs ls S hl hF
    rw [f_X6_fourth_107] at hF
    refine lv_iload_n X.1 X.2.1 dX6_fourth_107 rfl (lv_at hl 1 rfl) ?_
    refine ab_aload_n X dX6_fourth_108 rfl (lv_at hl 0 rfl) ?_
    refine ab_getR X S hF fi_6_1 lf_X6_40 dX6_fourth_109 (fun x1 hF => ?_)
    refine ab_getI X S hF fi_1_1 lf_X6_95 dX6_fourth_112 (fun x2 hF => ?_)
    refine lv_icmp_ge (tgt := 237) X.1 X.2.1 dX6_fourth_115 (by decide) (fun c3 => ?_) (fun c3 => ?_)
    · have hF := ab_pos c3 hF
      refine lv_iconst (v := 1) X.1 X.2.1 dX6_fourth_237 (by decide) ?_
      exact ab_zret X S hr hF dX6_fourth_238
    · have hF := ab_neg c3 hF
      refine ab_aload_n X dX6_fourth_118 rfl (lv_at hl 0 rfl) ?_
      refine ab_getR X S hF fi_6_0 lf_X6_9 dX6_fourth_119 (fun x4 hF => ?_)
      obtain ⟨a8, e9, hF⟩ := bind_out hF
      obtain ⟨x5, h6, e7, hF⟩ := bnd_out hF
      refine ab_callVv X S e9 (c_X2_begin l D cA sz e7) rfl (by decide) mi_X2_begin lm_X6_141 li_yX2_begin ls_yX2_begin (As := []) (rest := []) rfl ⟨by decide, by decide⟩ ⟨(by decide), (by decide)⟩ hl.1 rfl (by simp [ab_cat, ab_cI, ab_cJ, ab_cD, ab_cF]) dX6_fourth_122 (fun H1 locs1 S => ?_)
      refine ab_aload_n X dX6_fourth_125 rfl (lv_at hl 0 rfl) ?_
      refine ab_getR X S hF fi_6_0 lf_X6_9 dX6_fourth_126 (fun x10 hF => ?_)
      refine ab_aload_n X dX6_fourth_129 rfl (lv_at hl 0 rfl) ?_
      refine ab_getR X S hF fi_6_9 lf_X6_30 dX6_fourth_130 (fun x11 hF => ?_)
      refine lv_iconst (v := 0) X.1 X.2.1 dX6_fourth_133 (by decide) ?_
      refine ab_aldR X S hF rfl (by decide) dX6_fourth_134 (fun x12 hF => ?_)
      refine ab_getR X S hF fi_3_0 lf_X6_144 dX6_fourth_135 (fun x13 hF => ?_)
      refine lv_iload_n X.1 X.2.1 dX6_fourth_138 rfl (lv_at hl 1 rfl) ?_
      refine ab_aldD X S hF dX6_fourth_139 (fun x14 hF => ?_)
      refine lv_ldc2d (v := 4611686018427387904) X.1 X.2.1 X.2.2.2.1 (X.2.2.2.2.1 _ ld_X6_152) dX6_fourth_140 ?_
      refine ab_aload_n X dX6_fourth_143 rfl (lv_at hl 0 rfl) ?_
      refine ab_getR X S hF fi_6_9 lf_X6_30 dX6_fourth_144 (fun x15 hF => ?_)
      refine lv_iconst (v := 1) X.1 X.2.1 dX6_fourth_147 (by decide) ?_
      refine ab_aldR X S hF rfl (by decide) dX6_fourth_148 (fun x16 hF => ?_)
      refine ab_getR X S hF fi_3_0 lf_X6_144 dX6_fourth_149 (fun x17 hF => ?_)
      refine lv_iload_n X.1 X.2.1 dX6_fourth_152 rfl (lv_at hl 1 rfl) ?_
      refine ab_aldD X S hF dX6_fourth_153 (fun x18 hF => ?_)
      obtain ⟨x19, ev, ne, hF⟩ := ab_fopx hF
      refine lv_dmul X.1 X.2.1 dX6_fourth_154 ne ?_
      rw [ev]
      obtain ⟨a23, e24, hF⟩ := bind_out hF
      obtain ⟨x20, h21, e22, hF⟩ := bnd_out hF
      refine ab_callVd X S e24 (c_X2_sum l D cA sz e22) rfl (by decide) mi_X2_sum lm_X6_127 li_yX2_sum ls_yX2_sum (As := [.double x14, .double x19]) (rest := []) rfl ⟨by decide, by decide⟩ ⟨(by decide), (by decide)⟩ hl.1 rfl (by simp [ab_cat, ab_cI, ab_cJ, ab_cD, ab_cF]) dX6_fourth_155 (fun H1 locs1 S => ?_)
      refine lv_dstore (lv' := [(4, .double x20), (0, va_rf v0), (3, .int v3)]) X.1 X.2.1 dX6_fourth_158 hl (by decide) (by simp [ab_cat, ab_cI, ab_cJ, ab_cD, ab_cF]) (fun ls hl => ?_)
      refine ab_aload_n X dX6_fourth_160 rfl (lv_at hl 1 rfl) ?_
      refine ab_getR X S hF fi_6_0 lf_X6_9 dX6_fourth_161 (fun x25 hF => ?_)
      refine lv_dload X.1 X.2.1 dX6_fourth_164 (lv_at hl 0 rfl) ?_
      refine lv_ldc2d (v := 4611686018427387904) X.1 X.2.1 X.2.2.2.1 (X.2.2.2.2.1 _ ld_X6_152) dX6_fourth_166 ?_
      refine ab_aload_n X dX6_fourth_169 rfl (lv_at hl 1 rfl) ?_
      refine ab_getR X S hF fi_6_9 lf_X6_30 dX6_fourth_170 (fun x26 hF => ?_)
      refine lv_iconst (v := 2) X.1 X.2.1 dX6_fourth_173 (by decide) ?_
      refine ab_aldR X S hF rfl (by decide) dX6_fourth_174 (fun x27 hF => ?_)
      refine ab_getR X S hF fi_3_0 lf_X6_144 dX6_fourth_175 (fun x28 hF => ?_)
      refine lv_iload_n X.1 X.2.1 dX6_fourth_178 rfl (lv_at hl 2 rfl) ?_
      refine ab_aldD X S hF dX6_fourth_179 (fun x29 hF => ?_)
      obtain ⟨x30, ev, ne, hF⟩ := ab_fopx hF
      refine lv_dmul X.1 X.2.1 dX6_fourth_180 ne ?_
      rw [ev]
      obtain ⟨a34, e35, hF⟩ := bind_out hF
      obtain ⟨x31, h32, e33, hF⟩ := bnd_out hF
      refine ab_callVd X S e35 (c_X2_sum l D cA sz e33) rfl (by decide) mi_X2_sum lm_X6_127 li_yX2_sum ls_yX2_sum (As := [.double x20, .double x30]) (rest := []) rfl ⟨by decide, by decide⟩ ⟨(by decide), (by decide)⟩ hl.1 rfl (by simp [ab_cat, ab_cI, ab_cJ, ab_cD, ab_cF]) dX6_fourth_181 (fun H1 locs1 S => ?_)
      refine lv_dstore (lv' := [(4, .double x31), (0, va_rf v0), (3, .int v3)]) X.1 X.2.1 dX6_fourth_184 hl (by decide) (by simp [ab_cat, ab_cI, ab_cJ, ab_cD, ab_cF]) (fun ls hl => ?_)
      refine ab_aload_n X dX6_fourth_186 rfl (lv_at hl 1 rfl) ?_
      refine ab_getR X S hF fi_6_0 lf_X6_9 dX6_fourth_187 (fun x36 hF => ?_)
      refine lv_dload X.1 X.2.1 dX6_fourth_190 (lv_at hl 0 rfl) ?_
      refine ab_aload_n X dX6_fourth_192 rfl (lv_at hl 1 rfl) ?_
      refine ab_getR X S hF fi_6_9 lf_X6_30 dX6_fourth_193 (fun x37 hF => ?_)
      refine lv_iconst (v := 3) X.1 X.2.1 dX6_fourth_196 (by decide) ?_
      refine ab_aldR X S hF rfl (by decide) dX6_fourth_197 (fun x38 hF => ?_)
      refine ab_getR X S hF fi_3_0 lf_X6_144 dX6_fourth_198 (fun x39 hF => ?_)
      refine lv_iload_n X.1 X.2.1 dX6_fourth_201 rfl (lv_at hl 2 rfl) ?_
      refine ab_aldD X S hF dX6_fourth_202 (fun x40 hF => ?_)
      obtain ⟨a44, e45, hF⟩ := bind_out hF
      obtain ⟨x41, h42, e43, hF⟩ := bnd_out hF
      refine ab_callVd X S e45 (c_X2_sum l D cA sz e43) rfl (by decide) mi_X2_sum lm_X6_127 li_yX2_sum ls_yX2_sum (As := [.double x31, .double x40]) (rest := []) rfl ⟨by decide, by decide⟩ ⟨(by decide), (by decide)⟩ hl.1 rfl (by simp [ab_cat, ab_cI, ab_cJ, ab_cD, ab_cF]) dX6_fourth_203 (fun H1 locs1 S => ?_)
      refine lv_dstore (lv' := [(4, .double x41), (0, va_rf v0), (3, .int v3)]) X.1 X.2.1 dX6_fourth_206 hl (by decide) (by simp [ab_cat, ab_cI, ab_cJ, ab_cD, ab_cF]) (fun ls hl => ?_)
      refine ab_aload_n X dX6_fourth_208 rfl (lv_at hl 1 rfl) ?_
      refine ab_aload_n X dX6_fourth_209 rfl (lv_at hl 1 rfl) ?_
      refine ab_getR X S hF fi_6_8 lf_X6_27 dX6_fourth_210 (fun x46 hF => ?_)
      refine lv_iload_n X.1 X.2.1 dX6_fourth_213 rfl (lv_at hl 2 rfl) ?_
      refine ab_aload_n X dX6_fourth_214 rfl (lv_at hl 1 rfl) ?_
      refine ab_getR X S hF fi_6_6 lf_X6_20 dX6_fourth_215 (fun x47 hF => ?_)
      refine ab_aload_n X dX6_fourth_218 rfl (lv_at hl 1 rfl) ?_
      refine ab_getD X S hF fi_6_4 lf_X6_52 dX6_fourth_219 (fun x48 hF => ?_)
      refine lv_ldc2d (v := 4618441417868443648) X.1 X.2.1 X.2.2.2.1 (X.2.2.2.2.1 _ ld_X6_159) dX6_fourth_222 ?_
      obtain ⟨x49, ev, ne, hF⟩ := ab_fopx hF
      refine lv_ddiv X.1 X.2.1 dX6_fourth_225 ne ?_
      rw [ev]
      refine lv_dload X.1 X.2.1 dX6_fourth_226 (lv_at hl 0 rfl) ?_
      obtain ⟨a53, e54, hF⟩ := bind_out hF
      obtain ⟨x50, h51, e52, hF⟩ := bnd_out hF
      refine ab_callVv X S e54 (c_X6_arrive l D cA sz e52) rfl (by decide) mi_X6_arrive lm_X6_148 li_yX6_arrive ls_yX6_arrive (As := [va_rf x46, .int v3, va_rf x47, .double x49, .double x41]) (rest := []) rfl ⟨by decide, by decide⟩ ⟨(by decide), (by decide)⟩ hl.1 rfl (by simp [ab_cat, ab_cI, ab_cJ, ab_cD, ab_cF]) dX6_fourth_228 (fun H1 locs1 S => ?_)
      refine lv_iinc (v := v3 + 1) (lv' := [(3, .int (v3 + 1)), (4, .double x41), (0, va_rf v0)]) X.1 X.2.1 dX6_fourth_231 hl (k := 2) rfl (by rfl) (by decide) (by simp [ab_cat, ab_cI, ab_cJ, ab_cD, ab_cF]) (fun ls hl => ?_)
      refine lv_goto (tgt := 107) X.1 X.2.1 dX6_fourth_234 (by decide) ?_
      exact ih _ _ _ _ _ _ S (lv_sub hl [2, 0] rfl) hF
def f_X6_fourth (this : Nat) (h : Hp) : Option (Int32 × Hp) :=
  (getD h (some this) 6 4).bind fun x1 =>
  (fop (FP.ddiv x1 4611686018427387904)).bind fun x2 =>
  (getR h (some this) 6 7).bind fun x3 =>
  (ab_ck h (some this) (6, 0)).bind fun a7 =>
  bnd (f_X6_move a7 x3 x2 0 h) fun _ h5 =>
  (getD h5 (some this) 6 3).bind fun x9 =>
  (fop (FP.dadd x9 x2)).bind fun x10 =>
  (getR h5 (some this) 6 7).bind fun x11 =>
  (ab_ck h5 (some this) (6, 0)).bind fun a15 =>
  bnd (f_X6_slope a15 1 x10 x11 h5) fun x12 h13 =>
  if ¬ x12 = 0 then
    (getR h13 (some this) 6 7).bind fun x18 =>
    (ab_ck h13 (some this) (6, 0)).bind fun a22 =>
    bnd (f_X6_move a22 x18 x2 1 h13) fun _ h20 =>
    (getD h20 (some this) 6 3).bind fun x24 =>
    (fop (FP.dadd x24 x2)).bind fun x25 =>
    (getR h20 (some this) 6 7).bind fun x26 =>
    (ab_ck h20 (some this) (6, 0)).bind fun a30 =>
    bnd (f_X6_slope a30 2 x25 x26 h20) fun x27 h28 =>
    if ¬ x27 = 0 then
      (getR h28 (some this) 6 7).bind fun x33 =>
      (getD h28 (some this) 6 4).bind fun x34 =>
      (ab_ck h28 (some this) (6, 0)).bind fun a38 =>
      bnd (f_X6_move a38 x33 x34 2 h28) fun _ h36 =>
      (getD h36 (some this) 6 3).bind fun x40 =>
      (getD h36 (some this) 6 4).bind fun x41 =>
      (fop (FP.dadd x40 x41)).bind fun x42 =>
      (getR h36 (some this) 6 7).bind fun x43 =>
      (ab_ck h36 (some this) (6, 0)).bind fun a47 =>
      bnd (f_X6_slope a47 3 x42 x43 h36) fun x44 h45 =>
      if ¬ x44 = 0 then
        f_X6_fourth_107 fuelN (some this) 0 h45
      else
        if 0 = 0 ∨ 0 = 1 then some (0, h45) else none
    else
      if 0 = 0 ∨ 0 = 1 then some (0, h28) else none
  else
    if 0 = 0 ∨ 0 = 1 then some (0, h13) else none
theorem mi_X6_fourth : ab_MI yX6_fourth cX6_fourth 6 (some .boolean) 0 := ⟨lc_yX6_fourth, lz_RX6, by decide, by decide, by decide +kernel⟩
set_option maxHeartbeats 4000000 in
set_option maxRecDepth 100000 in
theorem c_X6_fourth (l : Launch) (D : va_G) (cA : Nat → ClassId) (sz : Nat) {this : Nat} {h hh : Hp} {rr : Int32} (hF : f_X6_fourth this h = some (rr, hh)) : ab_C l D cA sz yX6_fourth cX6_fourth 6 (some .boolean) 4 0 0 [.ref this] h (some (.int rr)) hh := by
  refine Met.ofW (cc := cX6_fourth) (maxL := 6) (ret := (some .boolean)) (by decide) rfl ?_
  intro p e s m args below meth c s₁ B hml hv
  obtain ⟨rfl, hT, hR⟩ := hv
  have X : ab_X p s m _ meth c cX6_fourth 6 RX6 D cA sz := (ab_enter B hml hT hR).1
  have S := (ab_enter B hml hT hR).2
  have hr := B.returns
  obtain ⟨ls, hls, hl⟩ := ab_entry m [.ref this] 6 (lv := [(0, .ref this)]) (by simp [lg_sl, ab_cat, ab_cI, ab_cJ, ab_cD, ab_cF, ab_cA]) (by simp [lv_args, ab_cat, ab_cI, ab_cJ, ab_cD, ab_cF, ab_cA])
  rw [hls]
  have hl : lv_has ls 6 [(0, va_rf (some this))] := hl
  unfold f_X6_fourth at hF
  show W p l e (ab_rm 4 0 0) s m _ below meth c s.heap [] 0 0 _ _
  refine ab_aload_n X dX6_fourth_0 rfl (lv_at hl 0 rfl) ?_
  refine ab_getD X S hF fi_6_4 lf_X6_52 dX6_fourth_1 (fun x1 hF => ?_)
  refine lv_ldc2d (v := 4611686018427387904) X.1 X.2.1 X.2.2.2.1 (X.2.2.2.2.1 _ ld_X6_152) dX6_fourth_4 ?_
  obtain ⟨x2, ev, ne, hF⟩ := ab_fopx hF
  refine lv_ddiv X.1 X.2.1 dX6_fourth_7 ne ?_
  rw [ev]
  refine lv_dstore_n (i := 1) (lv' := [(1, .double x2), (0, va_rf (some this))]) X.1 X.2.1 dX6_fourth_8 rfl hl (by decide) (by simp [ab_cat, ab_cI, ab_cJ, ab_cD, ab_cF]) (fun ls hl => ?_)
  refine ab_aload_n X dX6_fourth_9 rfl (lv_at hl 1 rfl) ?_
  refine ab_aload_n X dX6_fourth_10 rfl (lv_at hl 1 rfl) ?_
  refine ab_getR X S hF fi_6_7 lf_X6_24 dX6_fourth_11 (fun x3 hF => ?_)
  refine lv_dload_n X.1 X.2.1 dX6_fourth_14 rfl (lv_at hl 0 rfl) ?_
  refine lv_iconst (v := 0) X.1 X.2.1 dX6_fourth_15 (by decide) ?_
  obtain ⟨a7, e8, hF⟩ := bind_out hF
  obtain ⟨x4, h5, e6, hF⟩ := bnd_out hF
  refine ab_callVv X S e8 (c_X6_move l D cA sz e6) rfl (by decide) mi_X6_move lm_X6_72 li_yX6_move ls_yX6_move (As := [va_rf x3, .double x2, .int 0]) (rest := []) rfl ⟨by decide, by decide⟩ ⟨(by decide), (by decide)⟩ hl.1 rfl (by simp [ab_cat, ab_cI, ab_cJ, ab_cD, ab_cF]) dX6_fourth_16 (fun H1 locs1 S => ?_)
  refine ab_aload_n X dX6_fourth_19 rfl (lv_at hl 1 rfl) ?_
  refine lv_iconst (v := 1) X.1 X.2.1 dX6_fourth_20 (by decide) ?_
  refine ab_aload_n X dX6_fourth_21 rfl (lv_at hl 1 rfl) ?_
  refine ab_getD X S hF fi_6_3 lf_X6_48 dX6_fourth_22 (fun x9 hF => ?_)
  refine lv_dload_n X.1 X.2.1 dX6_fourth_25 rfl (lv_at hl 0 rfl) ?_
  obtain ⟨x10, ev, ne, hF⟩ := ab_fopx hF
  refine lv_dadd X.1 X.2.1 dX6_fourth_26 ne ?_
  rw [ev]
  refine ab_aload_n X dX6_fourth_27 rfl (lv_at hl 1 rfl) ?_
  refine ab_getR X S hF fi_6_7 lf_X6_24 dX6_fourth_28 (fun x11 hF => ?_)
  obtain ⟨a15, e16, hF⟩ := bind_out hF
  obtain ⟨x12, h13, e14, hF⟩ := bnd_out hF
  refine ab_callVi X S e16 (c_X6_slope l D cA sz e14) rfl (by decide) mi_X6_slope lm_X6_68 li_yX6_slope ls_yX6_slope (As := [.int 1, .double x10, va_rf x11]) (rest := []) rfl ⟨by decide, by decide⟩ ⟨(by decide), (by decide)⟩ hl.1 rfl (by simp [ab_cat, ab_cI, ab_cJ, ab_cD, ab_cF]) dX6_fourth_31 (fun H1 locs1 S => ?_)
  refine lv_if_ne (tgt := 39) X.1 X.2.1 dX6_fourth_34 (by decide) (fun c17 => ?_) (fun c17 => ?_)
  · have hF := ab_pos c17 hF
    refine ab_aload_n X dX6_fourth_39 rfl (lv_at hl 1 rfl) ?_
    refine ab_aload_n X dX6_fourth_40 rfl (lv_at hl 1 rfl) ?_
    refine ab_getR X S hF fi_6_7 lf_X6_24 dX6_fourth_41 (fun x18 hF => ?_)
    refine lv_dload_n X.1 X.2.1 dX6_fourth_44 rfl (lv_at hl 0 rfl) ?_
    refine lv_iconst (v := 1) X.1 X.2.1 dX6_fourth_45 (by decide) ?_
    obtain ⟨a22, e23, hF⟩ := bind_out hF
    obtain ⟨x19, h20, e21, hF⟩ := bnd_out hF
    refine ab_callVv X S e23 (c_X6_move l D cA sz e21) rfl (by decide) mi_X6_move lm_X6_72 li_yX6_move ls_yX6_move (As := [va_rf x18, .double x2, .int 1]) (rest := []) rfl ⟨by decide, by decide⟩ ⟨(by decide), (by decide)⟩ hl.1 rfl (by simp [ab_cat, ab_cI, ab_cJ, ab_cD, ab_cF]) dX6_fourth_46 (fun H1 locs1 S => ?_)
    refine ab_aload_n X dX6_fourth_49 rfl (lv_at hl 1 rfl) ?_
    refine lv_iconst (v := 2) X.1 X.2.1 dX6_fourth_50 (by decide) ?_
    refine ab_aload_n X dX6_fourth_51 rfl (lv_at hl 1 rfl) ?_
    refine ab_getD X S hF fi_6_3 lf_X6_48 dX6_fourth_52 (fun x24 hF => ?_)
    refine lv_dload_n X.1 X.2.1 dX6_fourth_55 rfl (lv_at hl 0 rfl) ?_
    obtain ⟨x25, ev, ne, hF⟩ := ab_fopx hF
    refine lv_dadd X.1 X.2.1 dX6_fourth_56 ne ?_
    rw [ev]
    refine ab_aload_n X dX6_fourth_57 rfl (lv_at hl 1 rfl) ?_
    refine ab_getR X S hF fi_6_7 lf_X6_24 dX6_fourth_58 (fun x26 hF => ?_)
    obtain ⟨a30, e31, hF⟩ := bind_out hF
    obtain ⟨x27, h28, e29, hF⟩ := bnd_out hF
    refine ab_callVi X S e31 (c_X6_slope l D cA sz e29) rfl (by decide) mi_X6_slope lm_X6_68 li_yX6_slope ls_yX6_slope (As := [.int 2, .double x25, va_rf x26]) (rest := []) rfl ⟨by decide, by decide⟩ ⟨(by decide), (by decide)⟩ hl.1 rfl (by simp [ab_cat, ab_cI, ab_cJ, ab_cD, ab_cF]) dX6_fourth_61 (fun H1 locs1 S => ?_)
    refine lv_if_ne (tgt := 69) X.1 X.2.1 dX6_fourth_64 (by decide) (fun c32 => ?_) (fun c32 => ?_)
    · have hF := ab_pos c32 hF
      refine ab_aload_n X dX6_fourth_69 rfl (lv_at hl 1 rfl) ?_
      refine ab_aload_n X dX6_fourth_70 rfl (lv_at hl 1 rfl) ?_
      refine ab_getR X S hF fi_6_7 lf_X6_24 dX6_fourth_71 (fun x33 hF => ?_)
      refine ab_aload_n X dX6_fourth_74 rfl (lv_at hl 1 rfl) ?_
      refine ab_getD X S hF fi_6_4 lf_X6_52 dX6_fourth_75 (fun x34 hF => ?_)
      refine lv_iconst (v := 2) X.1 X.2.1 dX6_fourth_78 (by decide) ?_
      obtain ⟨a38, e39, hF⟩ := bind_out hF
      obtain ⟨x35, h36, e37, hF⟩ := bnd_out hF
      refine ab_callVv X S e39 (c_X6_move l D cA sz e37) rfl (by decide) mi_X6_move lm_X6_72 li_yX6_move ls_yX6_move (As := [va_rf x33, .double x34, .int 2]) (rest := []) rfl ⟨by decide, by decide⟩ ⟨(by decide), (by decide)⟩ hl.1 rfl (by simp [ab_cat, ab_cI, ab_cJ, ab_cD, ab_cF]) dX6_fourth_79 (fun H1 locs1 S => ?_)
      refine ab_aload_n X dX6_fourth_82 rfl (lv_at hl 1 rfl) ?_
      refine lv_iconst (v := 3) X.1 X.2.1 dX6_fourth_83 (by decide) ?_
      refine ab_aload_n X dX6_fourth_84 rfl (lv_at hl 1 rfl) ?_
      refine ab_getD X S hF fi_6_3 lf_X6_48 dX6_fourth_85 (fun x40 hF => ?_)
      refine ab_aload_n X dX6_fourth_88 rfl (lv_at hl 1 rfl) ?_
      refine ab_getD X S hF fi_6_4 lf_X6_52 dX6_fourth_89 (fun x41 hF => ?_)
      obtain ⟨x42, ev, ne, hF⟩ := ab_fopx hF
      refine lv_dadd X.1 X.2.1 dX6_fourth_92 ne ?_
      rw [ev]
      refine ab_aload_n X dX6_fourth_93 rfl (lv_at hl 1 rfl) ?_
      refine ab_getR X S hF fi_6_7 lf_X6_24 dX6_fourth_94 (fun x43 hF => ?_)
      obtain ⟨a47, e48, hF⟩ := bind_out hF
      obtain ⟨x44, h45, e46, hF⟩ := bnd_out hF
      refine ab_callVi X S e48 (c_X6_slope l D cA sz e46) rfl (by decide) mi_X6_slope lm_X6_68 li_yX6_slope ls_yX6_slope (As := [.int 3, .double x42, va_rf x43]) (rest := []) rfl ⟨by decide, by decide⟩ ⟨(by decide), (by decide)⟩ hl.1 rfl (by simp [ab_cat, ab_cI, ab_cJ, ab_cD, ab_cF]) dX6_fourth_97 (fun H1 locs1 S => ?_)
      refine lv_if_ne (tgt := 105) X.1 X.2.1 dX6_fourth_100 (by decide) (fun c49 => ?_) (fun c49 => ?_)
      · have hF := ab_pos c49 hF
        refine lv_iconst (v := 0) X.1 X.2.1 dX6_fourth_105 (by decide) ?_
        refine lv_istore_n (i := 3) (lv' := [(3, .int 0), (1, .double x2), (0, va_rf (some this))]) X.1 X.2.1 dX6_fourth_106 rfl hl (by decide) (by simp [ab_cat, ab_cI, ab_cJ, ab_cD, ab_cF]) (fun ls hl => ?_)
        exact w_X6_fourth_107 X hr  fuelN _ _ _ _ _ _ S (lv_sub hl [2, 0] rfl) hF
      · have hF := ab_neg (fun q => q c49) hF
        refine lv_iconst (v := 0) X.1 X.2.1 dX6_fourth_103 (by decide) ?_
        exact ab_zret X S hr hF dX6_fourth_104
    · have hF := ab_neg (fun q => q c32) hF
      refine lv_iconst (v := 0) X.1 X.2.1 dX6_fourth_67 (by decide) ?_
      exact ab_zret X S hr hF dX6_fourth_68
  · have hF := ab_neg (fun q => q c17) hF
    refine lv_iconst (v := 0) X.1 X.2.1 dX6_fourth_37 (by decide) ?_
    exact ab_zret X S hr hF dX6_fourth_38
def f_X6_pair_228  : Nat → Option Nat → Int32 → Hp → Option (Int32 × Hp)
  | 0, _, _, _ => none
  | n + 1, v0, v5, h => (getR h v0 6 1).bind fun x1 =>
    (getI h x1 1 1).bind fun x2 =>
    if x2 ≤ v5 then
      (getR h v0 6 10).bind fun x4 =>
      (getR h v0 6 1).bind fun x5 =>
      (getI h x5 1 1).bind fun x6 =>
      (ab_ck h x4 (3, 0)).bind fun a10 =>
      bnd (f_X3_isFinite a10 x6 h) fun x7 h8 =>
      if x7 = 0 ∨ x7 = 1 then some (x7, h8) else none
    else
      (getR h v0 6 0).bind fun x12 =>
      (ab_ck h x12 (2, 0)).bind fun a16 =>
      bnd (f_X2_begin a16 h) fun _ h14 =>
      (getR h14 v0 6 0).bind fun x18 =>
      (getR h14 v0 6 9).bind fun x19 =>
      (aldR h14 x19 14 1).bind fun x20 =>
      (getR h14 x20 3 0).bind fun x21 =>
      (aldD h14 x21 v5).bind fun x22 =>
      (fop (FP.dmul 4618441417868443648 x22)).bind fun x23 =>
      (getR h14 v0 6 9).bind fun x24 =>
      (aldR h14 x24 14 2).bind fun x25 =>
      (getR h14 x25 3 0).bind fun x26 =>
      (aldD h14 x26 v5).bind fun x27 =>
      (fop (FP.dmul 4620693217682128896 x27)).bind fun x28 =>
      (ab_ck h14 x18 (2, 0)).bind fun a32 =>
      bnd (f_X2_sum a32 x23 x28 h14) fun x29 h30 =>
      (getR h30 v0 6 0).bind fun x34 =>
      (getR h30 v0 6 9).bind fun x35 =>
      (aldR h30 x35 14 0).bind fun x36 =>
      (getR h30 x36 3 0).bind fun x37 =>
      (aldD h30 x37 v5).bind fun x38 =>
      (fop (FP.dmul 4617315517961601024 x38)).bind fun x39 =>
      (ab_ck h30 x34 (2, 0)).bind fun a43 =>
      bnd (f_X2_difference a43 x29 x39 h30) fun x40 h41 =>
      (getR h41 v0 6 0).bind fun x45 =>
      (getR h41 v0 6 9).bind fun x46 =>
      (aldR h41 x46 14 3).bind fun x47 =>
      (getR h41 x47 3 0).bind fun x48 =>
      (aldD h41 x48 v5).bind fun x49 =>
      (fop (FP.dmul 4621256167635550208 x49)).bind fun x50 =>
      (ab_ck h41 x45 (2, 0)).bind fun a54 =>
      bnd (f_X2_difference a54 x40 x50 h41) fun x51 h52 =>
      (getR h52 v0 6 0).bind fun x56 =>
      (getD h52 v0 6 4).bind fun x57 =>
      (fop (FP.ddiv x57 4634766966517661696)).bind fun x58 =>
      (ab_ck h52 x56 (2, 0)).bind fun a62 =>
      bnd (f_X2_product a62 x58 x51 h52) fun x59 h60 =>
      (getR h60 v0 6 10).bind fun x64 =>
      (getR h60 v0 6 0).bind fun x65 =>
      (getI h60 x65 2 1).bind fun x66 =>
      (ab_ck h60 x64 (3, 0)).bind fun a70 =>
      bnd (f_X3_put a70 v5 x59 x66 0 h60) fun _ h68 =>
      f_X6_pair_228 n v0 (v5 + 1) h68
set_option maxHeartbeats 4000000 in
set_option maxRecDepth 100000 in
theorem w_X6_pair_228 {p : Program} {l : Launch} {e : Env} {s : State} {m : MethodId} {args : Array Value} {below : List Frame} {meth : Method} {c : Code} {D : va_G} {cA : Nat → ClassId} {sz : Nat} {rr : Int32} {hh : Hp}  (X : ab_X p s m args meth c cX6_pair 10 RX6 D cA sz) (hr : meth.sig.returnType = (some .boolean))  (n : Nat) : ∀ (v0 : Option Nat) (v5 : Int32) (h : Hp) (H : Heap) (locs : List Loc) (ls : Array Slot), ab_H D cA sz h s H locs → lv_has ls 10 [(0, va_rf v0), (5, .int v5)] → f_X6_pair_228 n v0 v5 h = some (rr, hh) → W p l e (ab_rm 4 0 0) s m args below meth c H locs 0 0 (MQ below (ab_Q D cA sz (some (.int rr)) hh) args s 0 0 (fun q => sz ≤ q)) (F0 m 228 ls []) := by
  induction n with
  | zero => intro v0 v5 h H locs ls S hl hF; cases hF
  | succ n ih =>
    intro v0 v5 h H locs ls S hl hF
    rw [f_X6_pair_228] at hF
    refine lv_iload X.1 X.2.1 dX6_pair_228 (lv_at hl 1 rfl) ?_
    refine ab_aload_n X dX6_pair_230 rfl (lv_at hl 0 rfl) ?_
    refine ab_getR X S hF fi_6_1 lf_X6_40 dX6_pair_231 (fun x1 hF => ?_)
    refine ab_getI X S hF fi_1_1 lf_X6_95 dX6_pair_234 (fun x2 hF => ?_)
    refine lv_icmp_ge (tgt := 386) X.1 X.2.1 dX6_pair_237 (by decide) (fun c3 => ?_) (fun c3 => ?_)
    · have hF := ab_pos c3 hF
      refine ab_aload_n X dX6_pair_386 rfl (lv_at hl 0 rfl) ?_
      refine ab_getR X S hF fi_6_10 lf_X6_34 dX6_pair_387 (fun x4 hF => ?_)
      refine ab_aload_n X dX6_pair_390 rfl (lv_at hl 0 rfl) ?_
      refine ab_getR X S hF fi_6_1 lf_X6_40 dX6_pair_391 (fun x5 hF => ?_)
      refine ab_getI X S hF fi_1_1 lf_X6_95 dX6_pair_394 (fun x6 hF => ?_)
      obtain ⟨a10, e11, hF⟩ := bind_out hF
      obtain ⟨x7, h8, e9, hF⟩ := bnd_out hF
      refine ab_callVi X S e11 (c_X3_isFinite l D cA sz e9) rfl (by decide) mi_X3_isFinite lm_X6_100 li_yX3_isFinite ls_yX3_isFinite (As := [.int x6]) (rest := []) rfl ⟨by decide, by decide⟩ ⟨(by decide), (by decide)⟩ hl.1 rfl (by simp [ab_cat, ab_cI, ab_cJ, ab_cD, ab_cF]) dX6_pair_397 (fun H1 locs1 S => ?_)
      exact ab_zret X S hr hF dX6_pair_400
    · have hF := ab_neg c3 hF
      refine ab_aload_n X dX6_pair_240 rfl (lv_at hl 0 rfl) ?_
      refine ab_getR X S hF fi_6_0 lf_X6_9 dX6_pair_241 (fun x12 hF => ?_)
      obtain ⟨a16, e17, hF⟩ := bind_out hF
      obtain ⟨x13, h14, e15, hF⟩ := bnd_out hF
      refine ab_callVv X S e17 (c_X2_begin l D cA sz e15) rfl (by decide) mi_X2_begin lm_X6_141 li_yX2_begin ls_yX2_begin (As := []) (rest := []) rfl ⟨by decide, by decide⟩ ⟨(by decide), (by decide)⟩ hl.1 rfl (by simp [ab_cat, ab_cI, ab_cJ, ab_cD, ab_cF]) dX6_pair_244 (fun H1 locs1 S => ?_)
      refine ab_aload_n X dX6_pair_247 rfl (lv_at hl 0 rfl) ?_
      refine ab_getR X S hF fi_6_0 lf_X6_9 dX6_pair_248 (fun x18 hF => ?_)
      refine lv_ldc2d (v := 4618441417868443648) X.1 X.2.1 X.2.2.2.1 (X.2.2.2.2.1 _ ld_X6_159) dX6_pair_251 ?_
      refine ab_aload_n X dX6_pair_254 rfl (lv_at hl 0 rfl) ?_
      refine ab_getR X S hF fi_6_9 lf_X6_30 dX6_pair_255 (fun x19 hF => ?_)
      refine lv_iconst (v := 1) X.1 X.2.1 dX6_pair_258 (by decide) ?_
      refine ab_aldR X S hF rfl (by decide) dX6_pair_259 (fun x20 hF => ?_)
      refine ab_getR X S hF fi_3_0 lf_X6_144 dX6_pair_260 (fun x21 hF => ?_)
      refine lv_iload X.1 X.2.1 dX6_pair_263 (lv_at hl 1 rfl) ?_
      refine ab_aldD X S hF dX6_pair_265 (fun x22 hF => ?_)
      obtain ⟨x23, ev, ne, hF⟩ := ab_fopx hF
      refine lv_dmul X.1 X.2.1 dX6_pair_266 ne ?_
      rw [ev]
      refine lv_ldc2d (v := 4620693217682128896) X.1 X.2.1 X.2.2.2.1 (X.2.2.2.2.1 _ ld_X6_165) dX6_pair_267 ?_
      refine ab_aload_n X dX6_pair_270 rfl (lv_at hl 0 rfl) ?_
      refine ab_getR X S hF fi_6_9 lf_X6_30 dX6_pair_271 (fun x24 hF => ?_)
      refine lv_iconst (v := 2) X.1 X.2.1 dX6_pair_274 (by decide) ?_
      refine ab_aldR X S hF rfl (by decide) dX6_pair_275 (fun x25 hF => ?_)
      refine ab_getR X S hF fi_3_0 lf_X6_144 dX6_pair_276 (fun x26 hF => ?_)
      refine lv_iload X.1 X.2.1 dX6_pair_279 (lv_at hl 1 rfl) ?_
      refine ab_aldD X S hF dX6_pair_281 (fun x27 hF => ?_)
      obtain ⟨x28, ev, ne, hF⟩ := ab_fopx hF
      refine lv_dmul X.1 X.2.1 dX6_pair_282 ne ?_
      rw [ev]
      obtain ⟨a32, e33, hF⟩ := bind_out hF
      obtain ⟨x29, h30, e31, hF⟩ := bnd_out hF
      refine ab_callVd X S e33 (c_X2_sum l D cA sz e31) rfl (by decide) mi_X2_sum lm_X6_127 li_yX2_sum ls_yX2_sum (As := [.double x23, .double x28]) (rest := []) rfl ⟨by decide, by decide⟩ ⟨(by decide), (by decide)⟩ hl.1 rfl (by simp [ab_cat, ab_cI, ab_cJ, ab_cD, ab_cF]) dX6_pair_283 (fun H1 locs1 S => ?_)
      refine lv_dstore (lv' := [(6, .double x29), (0, va_rf v0), (5, .int v5)]) X.1 X.2.1 dX6_pair_286 hl (by decide) (by simp [ab_cat, ab_cI, ab_cJ, ab_cD, ab_cF]) (fun ls hl => ?_)
      refine ab_aload_n X dX6_pair_288 rfl (lv_at hl 1 rfl) ?_
      refine ab_getR X S hF fi_6_0 lf_X6_9 dX6_pair_289 (fun x34 hF => ?_)
      refine lv_dload X.1 X.2.1 dX6_pair_292 (lv_at hl 0 rfl) ?_
      refine lv_ldc2d (v := 4617315517961601024) X.1 X.2.1 X.2.2.2.1 (X.2.2.2.2.1 _ ld_X6_167) dX6_pair_294 ?_
      refine ab_aload_n X dX6_pair_297 rfl (lv_at hl 1 rfl) ?_
      refine ab_getR X S hF fi_6_9 lf_X6_30 dX6_pair_298 (fun x35 hF => ?_)
      refine lv_iconst (v := 0) X.1 X.2.1 dX6_pair_301 (by decide) ?_
      refine ab_aldR X S hF rfl (by decide) dX6_pair_302 (fun x36 hF => ?_)
      refine ab_getR X S hF fi_3_0 lf_X6_144 dX6_pair_303 (fun x37 hF => ?_)
      refine lv_iload X.1 X.2.1 dX6_pair_306 (lv_at hl 2 rfl) ?_
      refine ab_aldD X S hF dX6_pair_308 (fun x38 hF => ?_)
      obtain ⟨x39, ev, ne, hF⟩ := ab_fopx hF
      refine lv_dmul X.1 X.2.1 dX6_pair_309 ne ?_
      rw [ev]
      obtain ⟨a43, e44, hF⟩ := bind_out hF
      obtain ⟨x40, h41, e42, hF⟩ := bnd_out hF
      refine ab_callVd X S e44 (c_X2_difference l D cA sz e42) rfl (by decide) mi_X2_difference lm_X6_154 li_yX2_difference ls_yX2_difference (As := [.double x29, .double x39]) (rest := []) rfl ⟨by decide, by decide⟩ ⟨(by decide), (by decide)⟩ hl.1 rfl (by simp [ab_cat, ab_cI, ab_cJ, ab_cD, ab_cF]) dX6_pair_310 (fun H1 locs1 S => ?_)
      refine lv_dstore (lv' := [(6, .double x40), (0, va_rf v0), (5, .int v5)]) X.1 X.2.1 dX6_pair_313 hl (by decide) (by simp [ab_cat, ab_cI, ab_cJ, ab_cD, ab_cF]) (fun ls hl => ?_)
      refine ab_aload_n X dX6_pair_315 rfl (lv_at hl 1 rfl) ?_
      refine ab_getR X S hF fi_6_0 lf_X6_9 dX6_pair_316 (fun x45 hF => ?_)
      refine lv_dload X.1 X.2.1 dX6_pair_319 (lv_at hl 0 rfl) ?_
      refine lv_ldc2d (v := 4621256167635550208) X.1 X.2.1 X.2.2.2.1 (X.2.2.2.2.1 _ ld_X6_163) dX6_pair_321 ?_
      refine ab_aload_n X dX6_pair_324 rfl (lv_at hl 1 rfl) ?_
      refine ab_getR X S hF fi_6_9 lf_X6_30 dX6_pair_325 (fun x46 hF => ?_)
      refine lv_iconst (v := 3) X.1 X.2.1 dX6_pair_328 (by decide) ?_
      refine ab_aldR X S hF rfl (by decide) dX6_pair_329 (fun x47 hF => ?_)
      refine ab_getR X S hF fi_3_0 lf_X6_144 dX6_pair_330 (fun x48 hF => ?_)
      refine lv_iload X.1 X.2.1 dX6_pair_333 (lv_at hl 2 rfl) ?_
      refine ab_aldD X S hF dX6_pair_335 (fun x49 hF => ?_)
      obtain ⟨x50, ev, ne, hF⟩ := ab_fopx hF
      refine lv_dmul X.1 X.2.1 dX6_pair_336 ne ?_
      rw [ev]
      obtain ⟨a54, e55, hF⟩ := bind_out hF
      obtain ⟨x51, h52, e53, hF⟩ := bnd_out hF
      refine ab_callVd X S e55 (c_X2_difference l D cA sz e53) rfl (by decide) mi_X2_difference lm_X6_154 li_yX2_difference ls_yX2_difference (As := [.double x40, .double x50]) (rest := []) rfl ⟨by decide, by decide⟩ ⟨(by decide), (by decide)⟩ hl.1 rfl (by simp [ab_cat, ab_cI, ab_cJ, ab_cD, ab_cF]) dX6_pair_337 (fun H1 locs1 S => ?_)
      refine lv_dstore (lv' := [(6, .double x51), (0, va_rf v0), (5, .int v5)]) X.1 X.2.1 dX6_pair_340 hl (by decide) (by simp [ab_cat, ab_cI, ab_cJ, ab_cD, ab_cF]) (fun ls hl => ?_)
      refine ab_aload_n X dX6_pair_342 rfl (lv_at hl 1 rfl) ?_
      refine ab_getR X S hF fi_6_0 lf_X6_9 dX6_pair_343 (fun x56 hF => ?_)
      refine ab_aload_n X dX6_pair_346 rfl (lv_at hl 1 rfl) ?_
      refine ab_getD X S hF fi_6_4 lf_X6_52 dX6_pair_347 (fun x57 hF => ?_)
      refine lv_ldc2d (v := 4634766966517661696) X.1 X.2.1 X.2.2.2.1 (X.2.2.2.2.1 _ ld_X6_169) dX6_pair_350 ?_
      obtain ⟨x58, ev, ne, hF⟩ := ab_fopx hF
      refine lv_ddiv X.1 X.2.1 dX6_pair_353 ne ?_
      rw [ev]
      refine lv_dload X.1 X.2.1 dX6_pair_354 (lv_at hl 0 rfl) ?_
      obtain ⟨a62, e63, hF⟩ := bind_out hF
      obtain ⟨x59, h60, e61, hF⟩ := bnd_out hF
      refine ab_callVd X S e63 (c_X2_product l D cA sz e61) rfl (by decide) mi_X2_product lm_X6_119 li_yX2_product ls_yX2_product (As := [.double x58, .double x51]) (rest := []) rfl ⟨by decide, by decide⟩ ⟨(by decide), (by decide)⟩ hl.1 rfl (by simp [ab_cat, ab_cI, ab_cJ, ab_cD, ab_cF]) dX6_pair_356 (fun H1 locs1 S => ?_)
      refine lv_dstore (lv' := [(8, .double x59), (6, .double x51), (0, va_rf v0), (5, .int v5)]) X.1 X.2.1 dX6_pair_359 hl (by decide) (by simp [ab_cat, ab_cI, ab_cJ, ab_cD, ab_cF]) (fun ls hl => ?_)
      refine ab_aload_n X dX6_pair_361 rfl (lv_at hl 2 rfl) ?_
      refine ab_getR X S hF fi_6_10 lf_X6_34 dX6_pair_362 (fun x64 hF => ?_)
      refine lv_iload X.1 X.2.1 dX6_pair_365 (lv_at hl 3 rfl) ?_
      refine lv_dload X.1 X.2.1 dX6_pair_367 (lv_at hl 0 rfl) ?_
      refine ab_aload_n X dX6_pair_369 rfl (lv_at hl 2 rfl) ?_
      refine ab_getR X S hF fi_6_0 lf_X6_9 dX6_pair_370 (fun x65 hF => ?_)
      refine ab_getI X S hF fi_2_1 lf_X6_130 dX6_pair_373 (fun x66 hF => ?_)
      refine lv_iconst (v := 0) X.1 X.2.1 dX6_pair_376 (by decide) ?_
      obtain ⟨a70, e71, hF⟩ := bind_out hF
      obtain ⟨x67, h68, e69, hF⟩ := bnd_out hF
      refine ab_callVv X S e71 (c_X3_put l D cA sz e69) rfl (by decide) mi_X3_put lm_X6_137 li_yX3_put ls_yX3_put (As := [.int v5, .double x59, .int x66, .int 0]) (rest := []) rfl ⟨by decide, by decide⟩ ⟨(by decide), (by decide)⟩ hl.1 rfl (by simp [ab_cat, ab_cI, ab_cJ, ab_cD, ab_cF]) dX6_pair_377 (fun H1 locs1 S => ?_)
      refine lv_iinc (v := v5 + 1) (lv' := [(5, .int (v5 + 1)), (8, .double x59), (6, .double x51), (0, va_rf v0)]) X.1 X.2.1 dX6_pair_380 hl (k := 3) rfl (by rfl) (by decide) (by simp [ab_cat, ab_cI, ab_cJ, ab_cD, ab_cF]) (fun ls hl => ?_)
      refine lv_goto (tgt := 228) X.1 X.2.1 dX6_pair_383 (by decide) ?_
      exact ih _ _ _ _ _ _ S (lv_sub hl [3, 0] rfl) hF
def f_X6_pair_85  : Nat → Option Nat → Int32 → Hp → Option (Int32 × Hp)
  | 0, _, _, _ => none
  | n + 1, v0, v5, h => (getR h v0 6 1).bind fun x1 =>
    (getI h x1 1 1).bind fun x2 =>
    if x2 ≤ v5 then
      (getD h v0 6 3).bind fun x4 =>
      (getD h v0 6 4).bind fun x5 =>
      (fop (FP.dadd x4 x5)).bind fun x6 =>
      (getR h v0 6 8).bind fun x7 =>
      (ab_ck h v0 (6, 0)).bind fun a11 =>
      bnd (f_X6_slope a11 3 x6 x7 h) fun x8 h9 =>
      if ¬ x8 = 0 then
        f_X6_pair_228 fuelN v0 0 h9
      else
        if 0 = 0 ∨ 0 = 1 then some (0, h9) else none
    else
      (getR h v0 6 0).bind fun x14 =>
      (ab_ck h x14 (2, 0)).bind fun a18 =>
      bnd (f_X2_begin a18 h) fun _ h16 =>
      (getR h16 v0 6 0).bind fun x20 =>
      (getR h16 v0 6 9).bind fun x21 =>
      (aldR h16 x21 14 0).bind fun x22 =>
      (getR h16 x22 3 0).bind fun x23 =>
      (aldD h16 x23 v5).bind fun x24 =>
      (fop (FP.dmul 4611686018427387904 x24)).bind fun x25 =>
      (getR h16 v0 6 9).bind fun x26 =>
      (aldR h16 x26 14 1).bind fun x27 =>
      (getR h16 x27 3 0).bind fun x28 =>
      (aldD h16 x28 v5).bind fun x29 =>
      (fop (FP.dmul 4613937818241073152 x29)).bind fun x30 =>
      (ab_ck h16 x20 (2, 0)).bind fun a34 =>
      bnd (f_X2_sum a34 x25 x30 h16) fun x31 h32 =>
      (getR h32 v0 6 0).bind fun x36 =>
      (getR h32 v0 6 9).bind fun x37 =>
      (aldR h32 x37 14 2).bind fun x38 =>
      (getR h32 x38 3 0).bind fun x39 =>
      (aldD h32 x39 v5).bind fun x40 =>
      (fop (FP.dmul 4616189618054758400 x40)).bind fun x41 =>
      (ab_ck h32 x36 (2, 0)).bind fun a45 =>
      bnd (f_X2_sum a45 x31 x41 h32) fun x42 h43 =>
      (getR h43 v0 6 8).bind fun x47 =>
      (getR h43 v0 6 6).bind fun x48 =>
      (getD h43 v0 6 4).bind fun x49 =>
      (fop (FP.ddiv x49 4621256167635550208)).bind fun x50 =>
      (ab_ck h43 v0 (6, 0)).bind fun a54 =>
      bnd (f_X6_arrive a54 x47 v5 x48 x50 x42 h43) fun _ h52 =>
      f_X6_pair_85 n v0 (v5 + 1) h52
set_option maxHeartbeats 4000000 in
set_option maxRecDepth 100000 in
theorem w_X6_pair_85 {p : Program} {l : Launch} {e : Env} {s : State} {m : MethodId} {args : Array Value} {below : List Frame} {meth : Method} {c : Code} {D : va_G} {cA : Nat → ClassId} {sz : Nat} {rr : Int32} {hh : Hp}  (X : ab_X p s m args meth c cX6_pair 10 RX6 D cA sz) (hr : meth.sig.returnType = (some .boolean))  (n : Nat) : ∀ (v0 : Option Nat) (v5 : Int32) (h : Hp) (H : Heap) (locs : List Loc) (ls : Array Slot), ab_H D cA sz h s H locs → lv_has ls 10 [(0, va_rf v0), (5, .int v5)] → f_X6_pair_85 n v0 v5 h = some (rr, hh) → W p l e (ab_rm 4 0 0) s m args below meth c H locs 0 0 (MQ below (ab_Q D cA sz (some (.int rr)) hh) args s 0 0 (fun q => sz ≤ q)) (F0 m 85 ls []) := by
  induction n with
  | zero => intro v0 v5 h H locs ls S hl hF; cases hF
  | succ n ih =>
    intro v0 v5 h H locs ls S hl hF
    rw [f_X6_pair_85] at hF
    refine lv_iload X.1 X.2.1 dX6_pair_85 (lv_at hl 1 rfl) ?_
    refine ab_aload_n X dX6_pair_87 rfl (lv_at hl 0 rfl) ?_
    refine ab_getR X S hF fi_6_1 lf_X6_40 dX6_pair_88 (fun x1 hF => ?_)
    refine ab_getI X S hF fi_1_1 lf_X6_95 dX6_pair_91 (fun x2 hF => ?_)
    refine lv_icmp_ge (tgt := 202) X.1 X.2.1 dX6_pair_94 (by decide) (fun c3 => ?_) (fun c3 => ?_)
    · have hF := ab_pos c3 hF
      refine ab_aload_n X dX6_pair_202 rfl (lv_at hl 0 rfl) ?_
      refine lv_iconst (v := 3) X.1 X.2.1 dX6_pair_203 (by decide) ?_
      refine ab_aload_n X dX6_pair_204 rfl (lv_at hl 0 rfl) ?_
      refine ab_getD X S hF fi_6_3 lf_X6_48 dX6_pair_205 (fun x4 hF => ?_)
      refine ab_aload_n X dX6_pair_208 rfl (lv_at hl 0 rfl) ?_
      refine ab_getD X S hF fi_6_4 lf_X6_52 dX6_pair_209 (fun x5 hF => ?_)
      obtain ⟨x6, ev, ne, hF⟩ := ab_fopx hF
      refine lv_dadd X.1 X.2.1 dX6_pair_212 ne ?_
      rw [ev]
      refine ab_aload_n X dX6_pair_213 rfl (lv_at hl 0 rfl) ?_
      refine ab_getR X S hF fi_6_8 lf_X6_27 dX6_pair_214 (fun x7 hF => ?_)
      obtain ⟨a11, e12, hF⟩ := bind_out hF
      obtain ⟨x8, h9, e10, hF⟩ := bnd_out hF
      refine ab_callVi X S e12 (c_X6_slope l D cA sz e10) rfl (by decide) mi_X6_slope lm_X6_68 li_yX6_slope ls_yX6_slope (As := [.int 3, .double x6, va_rf x7]) (rest := []) rfl ⟨by decide, by decide⟩ ⟨(by decide), (by decide)⟩ hl.1 rfl (by simp [ab_cat, ab_cI, ab_cJ, ab_cD, ab_cF]) dX6_pair_217 (fun H1 locs1 S => ?_)
      refine lv_if_ne (tgt := 225) X.1 X.2.1 dX6_pair_220 (by decide) (fun c13 => ?_) (fun c13 => ?_)
      · have hF := ab_pos c13 hF
        refine lv_iconst (v := 0) X.1 X.2.1 dX6_pair_225 (by decide) ?_
        refine lv_istore (lv' := [(5, .int 0), (0, va_rf v0)]) X.1 X.2.1 dX6_pair_226 hl (by decide) (by simp [ab_cat, ab_cI, ab_cJ, ab_cD, ab_cF]) (fun ls hl => ?_)
        exact w_X6_pair_228 X hr  fuelN _ _ _ _ _ _ S (lv_sub hl [1, 0] rfl) hF
      · have hF := ab_neg (fun q => q c13) hF
        refine lv_iconst (v := 0) X.1 X.2.1 dX6_pair_223 (by decide) ?_
        exact ab_zret X S hr hF dX6_pair_224
    · have hF := ab_neg c3 hF
      refine ab_aload_n X dX6_pair_97 rfl (lv_at hl 0 rfl) ?_
      refine ab_getR X S hF fi_6_0 lf_X6_9 dX6_pair_98 (fun x14 hF => ?_)
      obtain ⟨a18, e19, hF⟩ := bind_out hF
      obtain ⟨x15, h16, e17, hF⟩ := bnd_out hF
      refine ab_callVv X S e19 (c_X2_begin l D cA sz e17) rfl (by decide) mi_X2_begin lm_X6_141 li_yX2_begin ls_yX2_begin (As := []) (rest := []) rfl ⟨by decide, by decide⟩ ⟨(by decide), (by decide)⟩ hl.1 rfl (by simp [ab_cat, ab_cI, ab_cJ, ab_cD, ab_cF]) dX6_pair_101 (fun H1 locs1 S => ?_)
      refine ab_aload_n X dX6_pair_104 rfl (lv_at hl 0 rfl) ?_
      refine ab_getR X S hF fi_6_0 lf_X6_9 dX6_pair_105 (fun x20 hF => ?_)
      refine lv_ldc2d (v := 4611686018427387904) X.1 X.2.1 X.2.2.2.1 (X.2.2.2.2.1 _ ld_X6_152) dX6_pair_108 ?_
      refine ab_aload_n X dX6_pair_111 rfl (lv_at hl 0 rfl) ?_
      refine ab_getR X S hF fi_6_9 lf_X6_30 dX6_pair_112 (fun x21 hF => ?_)
      refine lv_iconst (v := 0) X.1 X.2.1 dX6_pair_115 (by decide) ?_
      refine ab_aldR X S hF rfl (by decide) dX6_pair_116 (fun x22 hF => ?_)
      refine ab_getR X S hF fi_3_0 lf_X6_144 dX6_pair_117 (fun x23 hF => ?_)
      refine lv_iload X.1 X.2.1 dX6_pair_120 (lv_at hl 1 rfl) ?_
      refine ab_aldD X S hF dX6_pair_122 (fun x24 hF => ?_)
      obtain ⟨x25, ev, ne, hF⟩ := ab_fopx hF
      refine lv_dmul X.1 X.2.1 dX6_pair_123 ne ?_
      rw [ev]
      refine lv_ldc2d (v := 4613937818241073152) X.1 X.2.1 X.2.2.2.1 (X.2.2.2.2.1 _ ld_X6_161) dX6_pair_124 ?_
      refine ab_aload_n X dX6_pair_127 rfl (lv_at hl 0 rfl) ?_
      refine ab_getR X S hF fi_6_9 lf_X6_30 dX6_pair_128 (fun x26 hF => ?_)
      refine lv_iconst (v := 1) X.1 X.2.1 dX6_pair_131 (by decide) ?_
      refine ab_aldR X S hF rfl (by decide) dX6_pair_132 (fun x27 hF => ?_)
      refine ab_getR X S hF fi_3_0 lf_X6_144 dX6_pair_133 (fun x28 hF => ?_)
      refine lv_iload X.1 X.2.1 dX6_pair_136 (lv_at hl 1 rfl) ?_
      refine ab_aldD X S hF dX6_pair_138 (fun x29 hF => ?_)
      obtain ⟨x30, ev, ne, hF⟩ := ab_fopx hF
      refine lv_dmul X.1 X.2.1 dX6_pair_139 ne ?_
      rw [ev]
      obtain ⟨a34, e35, hF⟩ := bind_out hF
      obtain ⟨x31, h32, e33, hF⟩ := bnd_out hF
      refine ab_callVd X S e35 (c_X2_sum l D cA sz e33) rfl (by decide) mi_X2_sum lm_X6_127 li_yX2_sum ls_yX2_sum (As := [.double x25, .double x30]) (rest := []) rfl ⟨by decide, by decide⟩ ⟨(by decide), (by decide)⟩ hl.1 rfl (by simp [ab_cat, ab_cI, ab_cJ, ab_cD, ab_cF]) dX6_pair_140 (fun H1 locs1 S => ?_)
      refine lv_dstore (lv' := [(6, .double x31), (0, va_rf v0), (5, .int v5)]) X.1 X.2.1 dX6_pair_143 hl (by decide) (by simp [ab_cat, ab_cI, ab_cJ, ab_cD, ab_cF]) (fun ls hl => ?_)
      refine ab_aload_n X dX6_pair_145 rfl (lv_at hl 1 rfl) ?_
      refine ab_getR X S hF fi_6_0 lf_X6_9 dX6_pair_146 (fun x36 hF => ?_)
      refine lv_dload X.1 X.2.1 dX6_pair_149 (lv_at hl 0 rfl) ?_
      refine lv_ldc2d (v := 4616189618054758400) X.1 X.2.1 X.2.2.2.1 (X.2.2.2.2.1 _ ld_X6_157) dX6_pair_151 ?_
      refine ab_aload_n X dX6_pair_154 rfl (lv_at hl 1 rfl) ?_
      refine ab_getR X S hF fi_6_9 lf_X6_30 dX6_pair_155 (fun x37 hF => ?_)
      refine lv_iconst (v := 2) X.1 X.2.1 dX6_pair_158 (by decide) ?_
      refine ab_aldR X S hF rfl (by decide) dX6_pair_159 (fun x38 hF => ?_)
      refine ab_getR X S hF fi_3_0 lf_X6_144 dX6_pair_160 (fun x39 hF => ?_)
      refine lv_iload X.1 X.2.1 dX6_pair_163 (lv_at hl 2 rfl) ?_
      refine ab_aldD X S hF dX6_pair_165 (fun x40 hF => ?_)
      obtain ⟨x41, ev, ne, hF⟩ := ab_fopx hF
      refine lv_dmul X.1 X.2.1 dX6_pair_166 ne ?_
      rw [ev]
      obtain ⟨a45, e46, hF⟩ := bind_out hF
      obtain ⟨x42, h43, e44, hF⟩ := bnd_out hF
      refine ab_callVd X S e46 (c_X2_sum l D cA sz e44) rfl (by decide) mi_X2_sum lm_X6_127 li_yX2_sum ls_yX2_sum (As := [.double x31, .double x41]) (rest := []) rfl ⟨by decide, by decide⟩ ⟨(by decide), (by decide)⟩ hl.1 rfl (by simp [ab_cat, ab_cI, ab_cJ, ab_cD, ab_cF]) dX6_pair_167 (fun H1 locs1 S => ?_)
      refine lv_dstore (lv' := [(6, .double x42), (0, va_rf v0), (5, .int v5)]) X.1 X.2.1 dX6_pair_170 hl (by decide) (by simp [ab_cat, ab_cI, ab_cJ, ab_cD, ab_cF]) (fun ls hl => ?_)
      refine ab_aload_n X dX6_pair_172 rfl (lv_at hl 1 rfl) ?_
      refine ab_aload_n X dX6_pair_173 rfl (lv_at hl 1 rfl) ?_
      refine ab_getR X S hF fi_6_8 lf_X6_27 dX6_pair_174 (fun x47 hF => ?_)
      refine lv_iload X.1 X.2.1 dX6_pair_177 (lv_at hl 2 rfl) ?_
      refine ab_aload_n X dX6_pair_179 rfl (lv_at hl 1 rfl) ?_
      refine ab_getR X S hF fi_6_6 lf_X6_20 dX6_pair_180 (fun x48 hF => ?_)
      refine ab_aload_n X dX6_pair_183 rfl (lv_at hl 1 rfl) ?_
      refine ab_getD X S hF fi_6_4 lf_X6_52 dX6_pair_184 (fun x49 hF => ?_)
      refine lv_ldc2d (v := 4621256167635550208) X.1 X.2.1 X.2.2.2.1 (X.2.2.2.2.1 _ ld_X6_163) dX6_pair_187 ?_
      obtain ⟨x50, ev, ne, hF⟩ := ab_fopx hF
      refine lv_ddiv X.1 X.2.1 dX6_pair_190 ne ?_
      rw [ev]
      refine lv_dload X.1 X.2.1 dX6_pair_191 (lv_at hl 0 rfl) ?_
      obtain ⟨a54, e55, hF⟩ := bind_out hF
      obtain ⟨x51, h52, e53, hF⟩ := bnd_out hF
      refine ab_callVv X S e55 (c_X6_arrive l D cA sz e53) rfl (by decide) mi_X6_arrive lm_X6_148 li_yX6_arrive ls_yX6_arrive (As := [va_rf x47, .int v5, va_rf x48, .double x50, .double x42]) (rest := []) rfl ⟨by decide, by decide⟩ ⟨(by decide), (by decide)⟩ hl.1 rfl (by simp [ab_cat, ab_cI, ab_cJ, ab_cD, ab_cF]) dX6_pair_193 (fun H1 locs1 S => ?_)
      refine lv_iinc (v := v5 + 1) (lv' := [(5, .int (v5 + 1)), (6, .double x42), (0, va_rf v0)]) X.1 X.2.1 dX6_pair_196 hl (k := 2) rfl (by rfl) (by decide) (by simp [ab_cat, ab_cI, ab_cJ, ab_cD, ab_cF]) (fun ls hl => ?_)
      refine lv_goto (tgt := 85) X.1 X.2.1 dX6_pair_199 (by decide) ?_
      exact ih _ _ _ _ _ _ S (lv_sub hl [2, 0] rfl) hF
def f_X6_pair (this : Nat) (h : Hp) : Option (Int32 × Hp) :=
  (getD h (some this) 6 4).bind fun x1 =>
  (fop (FP.ddiv x1 4611686018427387904)).bind fun x2 =>
  (getR h (some this) 6 7).bind fun x3 =>
  (ab_ck h (some this) (6, 0)).bind fun a7 =>
  bnd (f_X6_move a7 x3 x2 0 h) fun _ h5 =>
  (getD h5 (some this) 6 3).bind fun x9 =>
  (fop (FP.dadd x9 x2)).bind fun x10 =>
  (getR h5 (some this) 6 7).bind fun x11 =>
  (ab_ck h5 (some this) (6, 0)).bind fun a15 =>
  bnd (f_X6_slope a15 1 x10 x11 h5) fun x12 h13 =>
  if ¬ x12 = 0 then
    (getD h13 (some this) 6 4).bind fun x18 =>
    (fop (FP.dmul 4613937818241073152 x18)).bind fun x19 =>
    (fop (FP.ddiv x19 4616189618054758400)).bind fun x20 =>
    (getR h13 (some this) 6 7).bind fun x21 =>
    (ab_ck h13 (some this) (6, 0)).bind fun a25 =>
    bnd (f_X6_move a25 x21 x20 1 h13) fun _ h23 =>
    (getD h23 (some this) 6 3).bind fun x27 =>
    (fop (FP.dadd x27 x20)).bind fun x28 =>
    (getR h23 (some this) 6 7).bind fun x29 =>
    (ab_ck h23 (some this) (6, 0)).bind fun a33 =>
    bnd (f_X6_slope a33 2 x28 x29 h23) fun x30 h31 =>
    if ¬ x30 = 0 then
      f_X6_pair_85 fuelN (some this) 0 h31
    else
      if 0 = 0 ∨ 0 = 1 then some (0, h31) else none
  else
    if 0 = 0 ∨ 0 = 1 then some (0, h13) else none
theorem mi_X6_pair : ab_MI yX6_pair cX6_pair 10 (some .boolean) 0 := ⟨lc_yX6_pair, lz_RX6, by decide, by decide, by decide +kernel⟩
set_option maxHeartbeats 4000000 in
set_option maxRecDepth 100000 in
theorem c_X6_pair (l : Launch) (D : va_G) (cA : Nat → ClassId) (sz : Nat) {this : Nat} {h hh : Hp} {rr : Int32} (hF : f_X6_pair this h = some (rr, hh)) : ab_C l D cA sz yX6_pair cX6_pair 10 (some .boolean) 4 0 0 [.ref this] h (some (.int rr)) hh := by
  refine Met.ofW (cc := cX6_pair) (maxL := 10) (ret := (some .boolean)) (by decide) rfl ?_
  intro p e s m args below meth c s₁ B hml hv
  obtain ⟨rfl, hT, hR⟩ := hv
  have X : ab_X p s m _ meth c cX6_pair 10 RX6 D cA sz := (ab_enter B hml hT hR).1
  have S := (ab_enter B hml hT hR).2
  have hr := B.returns
  obtain ⟨ls, hls, hl⟩ := ab_entry m [.ref this] 10 (lv := [(0, .ref this)]) (by simp [lg_sl, ab_cat, ab_cI, ab_cJ, ab_cD, ab_cF, ab_cA]) (by simp [lv_args, ab_cat, ab_cI, ab_cJ, ab_cD, ab_cF, ab_cA])
  rw [hls]
  have hl : lv_has ls 10 [(0, va_rf (some this))] := hl
  unfold f_X6_pair at hF
  show W p l e (ab_rm 4 0 0) s m _ below meth c s.heap [] 0 0 _ _
  refine ab_aload_n X dX6_pair_0 rfl (lv_at hl 0 rfl) ?_
  refine ab_getD X S hF fi_6_4 lf_X6_52 dX6_pair_1 (fun x1 hF => ?_)
  refine lv_ldc2d (v := 4611686018427387904) X.1 X.2.1 X.2.2.2.1 (X.2.2.2.2.1 _ ld_X6_152) dX6_pair_4 ?_
  obtain ⟨x2, ev, ne, hF⟩ := ab_fopx hF
  refine lv_ddiv X.1 X.2.1 dX6_pair_7 ne ?_
  rw [ev]
  refine lv_dstore_n (i := 1) (lv' := [(1, .double x2), (0, va_rf (some this))]) X.1 X.2.1 dX6_pair_8 rfl hl (by decide) (by simp [ab_cat, ab_cI, ab_cJ, ab_cD, ab_cF]) (fun ls hl => ?_)
  refine ab_aload_n X dX6_pair_9 rfl (lv_at hl 1 rfl) ?_
  refine ab_aload_n X dX6_pair_10 rfl (lv_at hl 1 rfl) ?_
  refine ab_getR X S hF fi_6_7 lf_X6_24 dX6_pair_11 (fun x3 hF => ?_)
  refine lv_dload_n X.1 X.2.1 dX6_pair_14 rfl (lv_at hl 0 rfl) ?_
  refine lv_iconst (v := 0) X.1 X.2.1 dX6_pair_15 (by decide) ?_
  obtain ⟨a7, e8, hF⟩ := bind_out hF
  obtain ⟨x4, h5, e6, hF⟩ := bnd_out hF
  refine ab_callVv X S e8 (c_X6_move l D cA sz e6) rfl (by decide) mi_X6_move lm_X6_72 li_yX6_move ls_yX6_move (As := [va_rf x3, .double x2, .int 0]) (rest := []) rfl ⟨by decide, by decide⟩ ⟨(by decide), (by decide)⟩ hl.1 rfl (by simp [ab_cat, ab_cI, ab_cJ, ab_cD, ab_cF]) dX6_pair_16 (fun H1 locs1 S => ?_)
  refine ab_aload_n X dX6_pair_19 rfl (lv_at hl 1 rfl) ?_
  refine lv_iconst (v := 1) X.1 X.2.1 dX6_pair_20 (by decide) ?_
  refine ab_aload_n X dX6_pair_21 rfl (lv_at hl 1 rfl) ?_
  refine ab_getD X S hF fi_6_3 lf_X6_48 dX6_pair_22 (fun x9 hF => ?_)
  refine lv_dload_n X.1 X.2.1 dX6_pair_25 rfl (lv_at hl 0 rfl) ?_
  obtain ⟨x10, ev, ne, hF⟩ := ab_fopx hF
  refine lv_dadd X.1 X.2.1 dX6_pair_26 ne ?_
  rw [ev]
  refine ab_aload_n X dX6_pair_27 rfl (lv_at hl 1 rfl) ?_
  refine ab_getR X S hF fi_6_7 lf_X6_24 dX6_pair_28 (fun x11 hF => ?_)
  obtain ⟨a15, e16, hF⟩ := bind_out hF
  obtain ⟨x12, h13, e14, hF⟩ := bnd_out hF
  refine ab_callVi X S e16 (c_X6_slope l D cA sz e14) rfl (by decide) mi_X6_slope lm_X6_68 li_yX6_slope ls_yX6_slope (As := [.int 1, .double x10, va_rf x11]) (rest := []) rfl ⟨by decide, by decide⟩ ⟨(by decide), (by decide)⟩ hl.1 rfl (by simp [ab_cat, ab_cI, ab_cJ, ab_cD, ab_cF]) dX6_pair_31 (fun H1 locs1 S => ?_)
  refine lv_if_ne (tgt := 39) X.1 X.2.1 dX6_pair_34 (by decide) (fun c17 => ?_) (fun c17 => ?_)
  · have hF := ab_pos c17 hF
    refine lv_ldc2d (v := 4613937818241073152) X.1 X.2.1 X.2.2.2.1 (X.2.2.2.2.1 _ ld_X6_161) dX6_pair_39 ?_
    refine ab_aload_n X dX6_pair_42 rfl (lv_at hl 1 rfl) ?_
    refine ab_getD X S hF fi_6_4 lf_X6_52 dX6_pair_43 (fun x18 hF => ?_)
    obtain ⟨x19, ev, ne, hF⟩ := ab_fopx hF
    refine lv_dmul X.1 X.2.1 dX6_pair_46 ne ?_
    rw [ev]
    refine lv_ldc2d (v := 4616189618054758400) X.1 X.2.1 X.2.2.2.1 (X.2.2.2.2.1 _ ld_X6_157) dX6_pair_47 ?_
    obtain ⟨x20, ev, ne, hF⟩ := ab_fopx hF
    refine lv_ddiv X.1 X.2.1 dX6_pair_50 ne ?_
    rw [ev]
    refine lv_dstore_n (i := 3) (lv' := [(3, .double x20), (1, .double x2), (0, va_rf (some this))]) X.1 X.2.1 dX6_pair_51 rfl hl (by decide) (by simp [ab_cat, ab_cI, ab_cJ, ab_cD, ab_cF]) (fun ls hl => ?_)
    refine ab_aload_n X dX6_pair_52 rfl (lv_at hl 2 rfl) ?_
    refine ab_aload_n X dX6_pair_53 rfl (lv_at hl 2 rfl) ?_
    refine ab_getR X S hF fi_6_7 lf_X6_24 dX6_pair_54 (fun x21 hF => ?_)
    refine lv_dload_n X.1 X.2.1 dX6_pair_57 rfl (lv_at hl 0 rfl) ?_
    refine lv_iconst (v := 1) X.1 X.2.1 dX6_pair_58 (by decide) ?_
    obtain ⟨a25, e26, hF⟩ := bind_out hF
    obtain ⟨x22, h23, e24, hF⟩ := bnd_out hF
    refine ab_callVv X S e26 (c_X6_move l D cA sz e24) rfl (by decide) mi_X6_move lm_X6_72 li_yX6_move ls_yX6_move (As := [va_rf x21, .double x20, .int 1]) (rest := []) rfl ⟨by decide, by decide⟩ ⟨(by decide), (by decide)⟩ hl.1 rfl (by simp [ab_cat, ab_cI, ab_cJ, ab_cD, ab_cF]) dX6_pair_59 (fun H1 locs1 S => ?_)
    refine ab_aload_n X dX6_pair_62 rfl (lv_at hl 2 rfl) ?_
    refine lv_iconst (v := 2) X.1 X.2.1 dX6_pair_63 (by decide) ?_
    refine ab_aload_n X dX6_pair_64 rfl (lv_at hl 2 rfl) ?_
    refine ab_getD X S hF fi_6_3 lf_X6_48 dX6_pair_65 (fun x27 hF => ?_)
    refine lv_dload_n X.1 X.2.1 dX6_pair_68 rfl (lv_at hl 0 rfl) ?_
    obtain ⟨x28, ev, ne, hF⟩ := ab_fopx hF
    refine lv_dadd X.1 X.2.1 dX6_pair_69 ne ?_
    rw [ev]
    refine ab_aload_n X dX6_pair_70 rfl (lv_at hl 2 rfl) ?_
    refine ab_getR X S hF fi_6_7 lf_X6_24 dX6_pair_71 (fun x29 hF => ?_)
    obtain ⟨a33, e34, hF⟩ := bind_out hF
    obtain ⟨x30, h31, e32, hF⟩ := bnd_out hF
    refine ab_callVi X S e34 (c_X6_slope l D cA sz e32) rfl (by decide) mi_X6_slope lm_X6_68 li_yX6_slope ls_yX6_slope (As := [.int 2, .double x28, va_rf x29]) (rest := []) rfl ⟨by decide, by decide⟩ ⟨(by decide), (by decide)⟩ hl.1 rfl (by simp [ab_cat, ab_cI, ab_cJ, ab_cD, ab_cF]) dX6_pair_74 (fun H1 locs1 S => ?_)
    refine lv_if_ne (tgt := 82) X.1 X.2.1 dX6_pair_77 (by decide) (fun c35 => ?_) (fun c35 => ?_)
    · have hF := ab_pos c35 hF
      refine lv_iconst (v := 0) X.1 X.2.1 dX6_pair_82 (by decide) ?_
      refine lv_istore (lv' := [(5, .int 0), (3, .double x20), (1, .double x2), (0, va_rf (some this))]) X.1 X.2.1 dX6_pair_83 hl (by decide) (by simp [ab_cat, ab_cI, ab_cJ, ab_cD, ab_cF]) (fun ls hl => ?_)
      exact w_X6_pair_85 X hr  fuelN _ _ _ _ _ _ S (lv_sub hl [3, 0] rfl) hF
    · have hF := ab_neg (fun q => q c35) hF
      refine lv_iconst (v := 0) X.1 X.2.1 dX6_pair_80 (by decide) ?_
      exact ab_zret X S hr hF dX6_pair_81
  · have hF := ab_neg (fun q => q c17) hF
    refine lv_iconst (v := 0) X.1 X.2.1 dX6_pair_37 (by decide) ?_
    exact ab_zret X S hr hF dX6_pair_38
def f_X6_backward_15  : Nat → Option Nat → Int32 → Hp → Option (Int32 × Hp)
  | 0, _, _, _ => none
  | n + 1, v0, v1, h => if 6 ≤ v1 then
      if 1 = 0 ∨ 1 = 1 then some (1, h) else none
    else
      (getD h v0 6 3).bind fun x2 =>
      (getD h v0 6 4).bind fun x3 =>
      (fop (FP.dadd x2 x3)).bind fun x4 =>
      (getR h v0 6 7).bind fun x5 =>
      (ab_ck h v0 (6, 0)).bind fun a9 =>
      bnd (f_X6_slope a9 1 x4 x5 h) fun x6 h7 =>
      if ¬ x6 = 0 then
        (getR h7 v0 6 8).bind fun x12 =>
        (getD h7 v0 6 4).bind fun x13 =>
        (ab_ck h7 v0 (6, 0)).bind fun a17 =>
        bnd (f_X6_move a17 x12 x13 1 h7) fun _ h15 =>
        (ab_ck h15 v0 (6, 0)).bind fun a22 =>
        bnd (f_X6_unlikeCount a22 h15) fun x19 h20 =>
        (putI h20 v0 6 13 x19).bind fun h24 =>
        (getR h24 v0 6 7).bind fun x25 =>
        (getR h24 v0 6 8).bind fun x26 =>
        (ab_ck h24 x25 (3, 0)).bind fun a30 =>
        bnd (f_X3_copy a30 x26 h24) fun _ h28 =>
        f_X6_backward_15 n v0 (v1 + 1) h28
      else
        if 0 = 0 ∨ 0 = 1 then some (0, h7) else none
set_option maxHeartbeats 4000000 in
set_option maxRecDepth 100000 in
theorem w_X6_backward_15 {p : Program} {l : Launch} {e : Env} {s : State} {m : MethodId} {args : Array Value} {below : List Frame} {meth : Method} {c : Code} {D : va_G} {cA : Nat → ClassId} {sz : Nat} {rr : Int32} {hh : Hp}  (X : ab_X p s m args meth c cX6_backward 2 RX6 D cA sz) (hr : meth.sig.returnType = (some .boolean))  (n : Nat) : ∀ (v0 : Option Nat) (v1 : Int32) (h : Hp) (H : Heap) (locs : List Loc) (ls : Array Slot), ab_H D cA sz h s H locs → lv_has ls 2 [(0, va_rf v0), (1, .int v1)] → f_X6_backward_15 n v0 v1 h = some (rr, hh) → W p l e (ab_rm 4 0 0) s m args below meth c H locs 0 0 (MQ below (ab_Q D cA sz (some (.int rr)) hh) args s 0 0 (fun q => sz ≤ q)) (F0 m 15 ls []) := by
  induction n with
  | zero => intro v0 v1 h H locs ls S hl hF; cases hF
  | succ n ih =>
    intro v0 v1 h H locs ls S hl hF
    rw [f_X6_backward_15] at hF
    refine lv_iload_n X.1 X.2.1 dX6_backward_15 rfl (lv_at hl 1 rfl) ?_
    refine lv_bipush (v := 6) X.1 X.2.1 dX6_backward_16 (by decide) ?_
    refine lv_icmp_ge (tgt := 82) X.1 X.2.1 dX6_backward_18 (by decide) (fun c1 => ?_) (fun c1 => ?_)
    · have hF := ab_pos c1 hF
      refine lv_iconst (v := 1) X.1 X.2.1 dX6_backward_82 (by decide) ?_
      exact ab_zret X S hr hF dX6_backward_83
    · have hF := ab_neg c1 hF
      refine ab_aload_n X dX6_backward_21 rfl (lv_at hl 0 rfl) ?_
      refine lv_iconst (v := 1) X.1 X.2.1 dX6_backward_22 (by decide) ?_
      refine ab_aload_n X dX6_backward_23 rfl (lv_at hl 0 rfl) ?_
      refine ab_getD X S hF fi_6_3 lf_X6_48 dX6_backward_24 (fun x2 hF => ?_)
      refine ab_aload_n X dX6_backward_27 rfl (lv_at hl 0 rfl) ?_
      refine ab_getD X S hF fi_6_4 lf_X6_52 dX6_backward_28 (fun x3 hF => ?_)
      obtain ⟨x4, ev, ne, hF⟩ := ab_fopx hF
      refine lv_dadd X.1 X.2.1 dX6_backward_31 ne ?_
      rw [ev]
      refine ab_aload_n X dX6_backward_32 rfl (lv_at hl 0 rfl) ?_
      refine ab_getR X S hF fi_6_7 lf_X6_24 dX6_backward_33 (fun x5 hF => ?_)
      obtain ⟨a9, e10, hF⟩ := bind_out hF
      obtain ⟨x6, h7, e8, hF⟩ := bnd_out hF
      refine ab_callVi X S e10 (c_X6_slope l D cA sz e8) rfl (by decide) mi_X6_slope lm_X6_68 li_yX6_slope ls_yX6_slope (As := [.int 1, .double x4, va_rf x5]) (rest := []) rfl ⟨by decide, by decide⟩ ⟨(by decide), (by decide)⟩ hl.1 rfl (by simp [ab_cat, ab_cI, ab_cJ, ab_cD, ab_cF]) dX6_backward_36 (fun H1 locs1 S => ?_)
      refine lv_if_ne (tgt := 44) X.1 X.2.1 dX6_backward_39 (by decide) (fun c11 => ?_) (fun c11 => ?_)
      · have hF := ab_pos c11 hF
        refine ab_aload_n X dX6_backward_44 rfl (lv_at hl 0 rfl) ?_
        refine ab_aload_n X dX6_backward_45 rfl (lv_at hl 0 rfl) ?_
        refine ab_getR X S hF fi_6_8 lf_X6_27 dX6_backward_46 (fun x12 hF => ?_)
        refine ab_aload_n X dX6_backward_49 rfl (lv_at hl 0 rfl) ?_
        refine ab_getD X S hF fi_6_4 lf_X6_52 dX6_backward_50 (fun x13 hF => ?_)
        refine lv_iconst (v := 1) X.1 X.2.1 dX6_backward_53 (by decide) ?_
        obtain ⟨a17, e18, hF⟩ := bind_out hF
        obtain ⟨x14, h15, e16, hF⟩ := bnd_out hF
        refine ab_callVv X S e18 (c_X6_move l D cA sz e16) rfl (by decide) mi_X6_move lm_X6_72 li_yX6_move ls_yX6_move (As := [va_rf x12, .double x13, .int 1]) (rest := []) rfl ⟨by decide, by decide⟩ ⟨(by decide), (by decide)⟩ hl.1 rfl (by simp [ab_cat, ab_cI, ab_cJ, ab_cD, ab_cF]) dX6_backward_54 (fun H1 locs1 S => ?_)
        refine ab_aload_n X dX6_backward_57 rfl (lv_at hl 0 rfl) ?_
        refine ab_aload_n X dX6_backward_58 rfl (lv_at hl 0 rfl) ?_
        obtain ⟨a22, e23, hF⟩ := bind_out hF
        obtain ⟨x19, h20, e21, hF⟩ := bnd_out hF
        refine ab_callVi X S e23 (c_X6_unlikeCount l D cA sz e21) rfl (by decide) mi_X6_unlikeCount lm_X6_171 li_yX6_unlikeCount ls_yX6_unlikeCount (As := []) (rest := [va_rf v0]) rfl ⟨by decide, by decide⟩ ⟨(by decide), (by decide)⟩ hl.1 rfl (by simp [ab_cat, ab_cI, ab_cJ, ab_cD, ab_cF]) dX6_backward_59 (fun H1 locs1 S => ?_)
        refine ab_putI X S hF fi_6_13 ci_6 (Or.inl rfl) rfl lf_X6_65 dX6_backward_62 (fun h24 H1 locs1 hF S => ?_)
        refine ab_aload_n X dX6_backward_65 rfl (lv_at hl 0 rfl) ?_
        refine ab_getR X S hF fi_6_7 lf_X6_24 dX6_backward_66 (fun x25 hF => ?_)
        refine ab_aload_n X dX6_backward_69 rfl (lv_at hl 0 rfl) ?_
        refine ab_getR X S hF fi_6_8 lf_X6_27 dX6_backward_70 (fun x26 hF => ?_)
        obtain ⟨a30, e31, hF⟩ := bind_out hF
        obtain ⟨x27, h28, e29, hF⟩ := bnd_out hF
        refine ab_callVv X S e31 (c_X3_copy l D cA sz e29) rfl (by decide) mi_X3_copy lm_X6_58 li_yX3_copy ls_yX3_copy (As := [va_rf x26]) (rest := []) rfl ⟨by decide, by decide⟩ ⟨(by decide), (by decide)⟩ hl.1 rfl (by simp [ab_cat, ab_cI, ab_cJ, ab_cD, ab_cF]) dX6_backward_73 (fun H1 locs1 S => ?_)
        refine lv_iinc (v := v1 + 1) (lv' := [(1, .int (v1 + 1)), (0, va_rf v0)]) X.1 X.2.1 dX6_backward_76 hl (k := 1) rfl (by rfl) (by decide) (by simp [ab_cat, ab_cI, ab_cJ, ab_cD, ab_cF]) (fun ls hl => ?_)
        refine lv_goto (tgt := 15) X.1 X.2.1 dX6_backward_79 (by decide) ?_
        exact ih _ _ _ _ _ _ S (lv_sub hl [1, 0] rfl) hF
      · have hF := ab_neg (fun q => q c11) hF
        refine lv_iconst (v := 0) X.1 X.2.1 dX6_backward_42 (by decide) ?_
        exact ab_zret X S hr hF dX6_backward_43
def f_X6_backward (this : Nat) (h : Hp) : Option (Int32 × Hp) :=
  (getR h (some this) 6 7).bind fun x1 =>
  (getD h (some this) 6 4).bind fun x2 =>
  (ab_ck h (some this) (6, 0)).bind fun a6 =>
  bnd (f_X6_move a6 x1 x2 0 h) fun _ h4 =>
  f_X6_backward_15 fuelN (some this) 0 h4
theorem mi_X6_backward : ab_MI yX6_backward cX6_backward 2 (some .boolean) 0 := ⟨lc_yX6_backward, lz_RX6, by decide, by decide, by decide +kernel⟩
set_option maxHeartbeats 4000000 in
set_option maxRecDepth 100000 in
theorem c_X6_backward (l : Launch) (D : va_G) (cA : Nat → ClassId) (sz : Nat) {this : Nat} {h hh : Hp} {rr : Int32} (hF : f_X6_backward this h = some (rr, hh)) : ab_C l D cA sz yX6_backward cX6_backward 2 (some .boolean) 4 0 0 [.ref this] h (some (.int rr)) hh := by
  refine Met.ofW (cc := cX6_backward) (maxL := 2) (ret := (some .boolean)) (by decide) rfl ?_
  intro p e s m args below meth c s₁ B hml hv
  obtain ⟨rfl, hT, hR⟩ := hv
  have X : ab_X p s m _ meth c cX6_backward 2 RX6 D cA sz := (ab_enter B hml hT hR).1
  have S := (ab_enter B hml hT hR).2
  have hr := B.returns
  obtain ⟨ls, hls, hl⟩ := ab_entry m [.ref this] 2 (lv := [(0, .ref this)]) (by simp [lg_sl, ab_cat, ab_cI, ab_cJ, ab_cD, ab_cF, ab_cA]) (by simp [lv_args, ab_cat, ab_cI, ab_cJ, ab_cD, ab_cF, ab_cA])
  rw [hls]
  have hl : lv_has ls 2 [(0, va_rf (some this))] := hl
  unfold f_X6_backward at hF
  show W p l e (ab_rm 4 0 0) s m _ below meth c s.heap [] 0 0 _ _
  refine ab_aload_n X dX6_backward_0 rfl (lv_at hl 0 rfl) ?_
  refine ab_aload_n X dX6_backward_1 rfl (lv_at hl 0 rfl) ?_
  refine ab_getR X S hF fi_6_7 lf_X6_24 dX6_backward_2 (fun x1 hF => ?_)
  refine ab_aload_n X dX6_backward_5 rfl (lv_at hl 0 rfl) ?_
  refine ab_getD X S hF fi_6_4 lf_X6_52 dX6_backward_6 (fun x2 hF => ?_)
  refine lv_iconst (v := 0) X.1 X.2.1 dX6_backward_9 (by decide) ?_
  obtain ⟨a6, e7, hF⟩ := bind_out hF
  obtain ⟨x3, h4, e5, hF⟩ := bnd_out hF
  refine ab_callVv X S e7 (c_X6_move l D cA sz e5) rfl (by decide) mi_X6_move lm_X6_72 li_yX6_move ls_yX6_move (As := [va_rf x1, .double x2, .int 0]) (rest := []) rfl ⟨by decide, by decide⟩ ⟨(by decide), (by decide)⟩ hl.1 rfl (by simp [ab_cat, ab_cI, ab_cJ, ab_cD, ab_cF]) dX6_backward_10 (fun H1 locs1 S => ?_)
  refine lv_iconst (v := 0) X.1 X.2.1 dX6_backward_13 (by decide) ?_
  refine lv_istore_n (i := 1) (lv' := [(1, .int 0), (0, va_rf (some this))]) X.1 X.2.1 dX6_backward_14 rfl hl (by decide) (by simp [ab_cat, ab_cI, ab_cJ, ab_cD, ab_cF]) (fun ls hl => ?_)
  exact w_X6_backward_15 X hr  fuelN _ _ _ _ _ _ S (lv_sub hl [1, 0] rfl) hF
def f_X6_leap_194  : Nat → Option Nat → UInt64 → Int32 → Hp → Option (Int32 × Hp)
  | 0, _, _, _, _ => none
  | n + 1, v0, v1, v4, h => (getR h v0 6 1).bind fun x1 =>
    (getI h x1 1 1).bind fun x2 =>
    if x2 ≤ v4 then
      if 1 = 0 ∨ 1 = 1 then some (1, h) else none
    else
      (getR h v0 6 0).bind fun x4 =>
      (ab_ck h x4 (2, 0)).bind fun a8 =>
      bnd (f_X2_begin a8 h) fun _ h6 =>
      (getR h6 v0 6 8).bind fun x10 =>
      (getR h6 v0 6 7).bind fun x11 =>
      (getR h6 v0 6 9).bind fun x12 =>
      (aldR h6 x12 14 2).bind fun x13 =>
      (getR h6 x13 3 0).bind fun x14 =>
      (aldD h6 x14 v4).bind fun x15 =>
      (ab_ck h6 v0 (6, 0)).bind fun a19 =>
      bnd (f_X6_arrive a19 x10 v4 x11 v1 x15 h6) fun _ h17 =>
      f_X6_leap_194 n v0 v1 (v4 + 1) h17
set_option maxHeartbeats 4000000 in
set_option maxRecDepth 100000 in
theorem w_X6_leap_194 {p : Program} {l : Launch} {e : Env} {s : State} {m : MethodId} {args : Array Value} {below : List Frame} {meth : Method} {c : Code} {D : va_G} {cA : Nat → ClassId} {sz : Nat} {rr : Int32} {hh : Hp}  (X : ab_X p s m args meth c cX6_leap 5 RX6 D cA sz) (hr : meth.sig.returnType = (some .boolean))  (n : Nat) : ∀ (v0 : Option Nat) (v1 : UInt64) (v4 : Int32) (h : Hp) (H : Heap) (locs : List Loc) (ls : Array Slot), ab_H D cA sz h s H locs → lv_has ls 5 [(0, va_rf v0), (1, .double v1), (4, .int v4)] → f_X6_leap_194 n v0 v1 v4 h = some (rr, hh) → W p l e (ab_rm 4 0 0) s m args below meth c H locs 0 0 (MQ below (ab_Q D cA sz (some (.int rr)) hh) args s 0 0 (fun q => sz ≤ q)) (F0 m 194 ls []) := by
  induction n with
  | zero => intro v0 v1 v4 h H locs ls S hl hF; cases hF
  | succ n ih =>
    intro v0 v1 v4 h H locs ls S hl hF
    rw [f_X6_leap_194] at hF
    refine lv_iload X.1 X.2.1 dX6_leap_194 (lv_at hl 2 rfl) ?_
    refine ab_aload_n X dX6_leap_196 rfl (lv_at hl 0 rfl) ?_
    refine ab_getR X S hF fi_6_1 lf_X6_40 dX6_leap_197 (fun x1 hF => ?_)
    refine ab_getI X S hF fi_1_1 lf_X6_95 dX6_leap_200 (fun x2 hF => ?_)
    refine lv_icmp_ge (tgt := 246) X.1 X.2.1 dX6_leap_203 (by decide) (fun c3 => ?_) (fun c3 => ?_)
    · have hF := ab_pos c3 hF
      refine lv_iconst (v := 1) X.1 X.2.1 dX6_leap_246 (by decide) ?_
      exact ab_zret X S hr hF dX6_leap_247
    · have hF := ab_neg c3 hF
      refine ab_aload_n X dX6_leap_206 rfl (lv_at hl 0 rfl) ?_
      refine ab_getR X S hF fi_6_0 lf_X6_9 dX6_leap_207 (fun x4 hF => ?_)
      obtain ⟨a8, e9, hF⟩ := bind_out hF
      obtain ⟨x5, h6, e7, hF⟩ := bnd_out hF
      refine ab_callVv X S e9 (c_X2_begin l D cA sz e7) rfl (by decide) mi_X2_begin lm_X6_141 li_yX2_begin ls_yX2_begin (As := []) (rest := []) rfl ⟨by decide, by decide⟩ ⟨(by decide), (by decide)⟩ hl.1 rfl (by simp [ab_cat, ab_cI, ab_cJ, ab_cD, ab_cF]) dX6_leap_210 (fun H1 locs1 S => ?_)
      refine ab_aload_n X dX6_leap_213 rfl (lv_at hl 0 rfl) ?_
      refine ab_aload_n X dX6_leap_214 rfl (lv_at hl 0 rfl) ?_
      refine ab_getR X S hF fi_6_8 lf_X6_27 dX6_leap_215 (fun x10 hF => ?_)
      refine lv_iload X.1 X.2.1 dX6_leap_218 (lv_at hl 2 rfl) ?_
      refine ab_aload_n X dX6_leap_220 rfl (lv_at hl 0 rfl) ?_
      refine ab_getR X S hF fi_6_7 lf_X6_24 dX6_leap_221 (fun x11 hF => ?_)
      refine lv_dload_n X.1 X.2.1 dX6_leap_224 rfl (lv_at hl 1 rfl) ?_
      refine ab_aload_n X dX6_leap_225 rfl (lv_at hl 0 rfl) ?_
      refine ab_getR X S hF fi_6_9 lf_X6_30 dX6_leap_226 (fun x12 hF => ?_)
      refine lv_iconst (v := 2) X.1 X.2.1 dX6_leap_229 (by decide) ?_
      refine ab_aldR X S hF rfl (by decide) dX6_leap_230 (fun x13 hF => ?_)
      refine ab_getR X S hF fi_3_0 lf_X6_144 dX6_leap_231 (fun x14 hF => ?_)
      refine lv_iload X.1 X.2.1 dX6_leap_234 (lv_at hl 2 rfl) ?_
      refine ab_aldD X S hF dX6_leap_236 (fun x15 hF => ?_)
      obtain ⟨a19, e20, hF⟩ := bind_out hF
      obtain ⟨x16, h17, e18, hF⟩ := bnd_out hF
      refine ab_callVv X S e20 (c_X6_arrive l D cA sz e18) rfl (by decide) mi_X6_arrive lm_X6_148 li_yX6_arrive ls_yX6_arrive (As := [va_rf x10, .int v4, va_rf x11, .double v1, .double x15]) (rest := []) rfl ⟨by decide, by decide⟩ ⟨(by decide), (by decide)⟩ hl.1 rfl (by simp [ab_cat, ab_cI, ab_cJ, ab_cD, ab_cF]) dX6_leap_237 (fun H1 locs1 S => ?_)
      refine lv_iinc (v := v4 + 1) (lv' := [(4, .int (v4 + 1)), (0, va_rf v0), (1, .double v1)]) X.1 X.2.1 dX6_leap_240 hl (k := 2) rfl (by rfl) (by decide) (by simp [ab_cat, ab_cI, ab_cJ, ab_cD, ab_cF]) (fun ls hl => ?_)
      refine lv_goto (tgt := 194) X.1 X.2.1 dX6_leap_243 (by decide) ?_
      exact ih _ _ _ _ _ _ _ S (lv_sub hl [1, 2, 0] rfl) hF
def f_X6_leap_119  : Nat → Option Nat → UInt64 → Int32 → Int32 → Hp → Option (Int32 × Hp)
  | 0, _, _, _, _, _ => none
  | n + 1, v0, v1, v3, v4, h => if v3 ≤ v4 then
      (getD h v0 6 3).bind fun x2 =>
      (getD h v0 6 4).bind fun x3 =>
      (fop (FP.dadd x2 x3)).bind fun x4 =>
      (getR h v0 6 8).bind fun x5 =>
      (ab_ck h v0 (6, 0)).bind fun a9 =>
      bnd (f_X6_slope a9 2 x4 x5 h) fun x6 h7 =>
      if ¬ x6 = 0 then
        f_X6_leap_194 fuelN v0 v1 v3 h7
      else
        if 0 = 0 ∨ 0 = 1 then some (0, h7) else none
    else
      (getR h v0 6 0).bind fun x12 =>
      (ab_ck h x12 (2, 0)).bind fun a16 =>
      bnd (f_X2_begin a16 h) fun _ h14 =>
      (getR h14 v0 6 8).bind fun x18 =>
      (getR h14 v0 6 6).bind fun x19 =>
      (getD h14 v0 6 4).bind fun x20 =>
      (getR h14 v0 6 9).bind fun x21 =>
      (aldR h14 x21 14 1).bind fun x22 =>
      (getR h14 x22 3 0).bind fun x23 =>
      (aldD h14 x23 v4).bind fun x24 =>
      (ab_ck h14 v0 (6, 0)).bind fun a28 =>
      bnd (f_X6_arrive a28 x18 v4 x19 x20 x24 h14) fun _ h26 =>
      f_X6_leap_119 n v0 v1 v3 (v4 + 1) h26
set_option maxHeartbeats 4000000 in
set_option maxRecDepth 100000 in
theorem w_X6_leap_119 {p : Program} {l : Launch} {e : Env} {s : State} {m : MethodId} {args : Array Value} {below : List Frame} {meth : Method} {c : Code} {D : va_G} {cA : Nat → ClassId} {sz : Nat} {rr : Int32} {hh : Hp}  (X : ab_X p s m args meth c cX6_leap 5 RX6 D cA sz) (hr : meth.sig.returnType = (some .boolean))  (n : Nat) : ∀ (v0 : Option Nat) (v1 : UInt64) (v3 : Int32) (v4 : Int32) (h : Hp) (H : Heap) (locs : List Loc) (ls : Array Slot), ab_H D cA sz h s H locs → lv_has ls 5 [(0, va_rf v0), (1, .double v1), (3, .int v3), (4, .int v4)] → f_X6_leap_119 n v0 v1 v3 v4 h = some (rr, hh) → W p l e (ab_rm 4 0 0) s m args below meth c H locs 0 0 (MQ below (ab_Q D cA sz (some (.int rr)) hh) args s 0 0 (fun q => sz ≤ q)) (F0 m 119 ls []) := by
  induction n with
  | zero => intro v0 v1 v3 v4 h H locs ls S hl hF; cases hF
  | succ n ih =>
    intro v0 v1 v3 v4 h H locs ls S hl hF
    rw [f_X6_leap_119] at hF
    refine lv_iload X.1 X.2.1 dX6_leap_119 (lv_at hl 3 rfl) ?_
    refine lv_iload_n X.1 X.2.1 dX6_leap_121 rfl (lv_at hl 2 rfl) ?_
    refine lv_icmp_ge (tgt := 168) X.1 X.2.1 dX6_leap_122 (by decide) (fun c1 => ?_) (fun c1 => ?_)
    · have hF := ab_pos c1 hF
      refine ab_aload_n X dX6_leap_168 rfl (lv_at hl 0 rfl) ?_
      refine lv_iconst (v := 2) X.1 X.2.1 dX6_leap_169 (by decide) ?_
      refine ab_aload_n X dX6_leap_170 rfl (lv_at hl 0 rfl) ?_
      refine ab_getD X S hF fi_6_3 lf_X6_48 dX6_leap_171 (fun x2 hF => ?_)
      refine ab_aload_n X dX6_leap_174 rfl (lv_at hl 0 rfl) ?_
      refine ab_getD X S hF fi_6_4 lf_X6_52 dX6_leap_175 (fun x3 hF => ?_)
      obtain ⟨x4, ev, ne, hF⟩ := ab_fopx hF
      refine lv_dadd X.1 X.2.1 dX6_leap_178 ne ?_
      rw [ev]
      refine ab_aload_n X dX6_leap_179 rfl (lv_at hl 0 rfl) ?_
      refine ab_getR X S hF fi_6_8 lf_X6_27 dX6_leap_180 (fun x5 hF => ?_)
      obtain ⟨a9, e10, hF⟩ := bind_out hF
      obtain ⟨x6, h7, e8, hF⟩ := bnd_out hF
      refine ab_callVi X S e10 (c_X6_slope l D cA sz e8) rfl (by decide) mi_X6_slope lm_X6_68 li_yX6_slope ls_yX6_slope (As := [.int 2, .double x4, va_rf x5]) (rest := []) rfl ⟨by decide, by decide⟩ ⟨(by decide), (by decide)⟩ hl.1 rfl (by simp [ab_cat, ab_cI, ab_cJ, ab_cD, ab_cF]) dX6_leap_183 (fun H1 locs1 S => ?_)
      refine lv_if_ne (tgt := 191) X.1 X.2.1 dX6_leap_186 (by decide) (fun c11 => ?_) (fun c11 => ?_)
      · have hF := ab_pos c11 hF
        refine lv_iload_n X.1 X.2.1 dX6_leap_191 rfl (lv_at hl 2 rfl) ?_
        refine lv_istore (lv' := [(4, .int v3), (0, va_rf v0), (1, .double v1), (3, .int v3)]) X.1 X.2.1 dX6_leap_192 hl (by decide) (by simp [ab_cat, ab_cI, ab_cJ, ab_cD, ab_cF]) (fun ls hl => ?_)
        exact w_X6_leap_194 X hr  fuelN _ _ _ _ _ _ _ S (lv_sub hl [1, 2, 0] rfl) hF
      · have hF := ab_neg (fun q => q c11) hF
        refine lv_iconst (v := 0) X.1 X.2.1 dX6_leap_189 (by decide) ?_
        exact ab_zret X S hr hF dX6_leap_190
    · have hF := ab_neg c1 hF
      refine ab_aload_n X dX6_leap_125 rfl (lv_at hl 0 rfl) ?_
      refine ab_getR X S hF fi_6_0 lf_X6_9 dX6_leap_126 (fun x12 hF => ?_)
      obtain ⟨a16, e17, hF⟩ := bind_out hF
      obtain ⟨x13, h14, e15, hF⟩ := bnd_out hF
      refine ab_callVv X S e17 (c_X2_begin l D cA sz e15) rfl (by decide) mi_X2_begin lm_X6_141 li_yX2_begin ls_yX2_begin (As := []) (rest := []) rfl ⟨by decide, by decide⟩ ⟨(by decide), (by decide)⟩ hl.1 rfl (by simp [ab_cat, ab_cI, ab_cJ, ab_cD, ab_cF]) dX6_leap_129 (fun H1 locs1 S => ?_)
      refine ab_aload_n X dX6_leap_132 rfl (lv_at hl 0 rfl) ?_
      refine ab_aload_n X dX6_leap_133 rfl (lv_at hl 0 rfl) ?_
      refine ab_getR X S hF fi_6_8 lf_X6_27 dX6_leap_134 (fun x18 hF => ?_)
      refine lv_iload X.1 X.2.1 dX6_leap_137 (lv_at hl 3 rfl) ?_
      refine ab_aload_n X dX6_leap_139 rfl (lv_at hl 0 rfl) ?_
      refine ab_getR X S hF fi_6_6 lf_X6_20 dX6_leap_140 (fun x19 hF => ?_)
      refine ab_aload_n X dX6_leap_143 rfl (lv_at hl 0 rfl) ?_
      refine ab_getD X S hF fi_6_4 lf_X6_52 dX6_leap_144 (fun x20 hF => ?_)
      refine ab_aload_n X dX6_leap_147 rfl (lv_at hl 0 rfl) ?_
      refine ab_getR X S hF fi_6_9 lf_X6_30 dX6_leap_148 (fun x21 hF => ?_)
      refine lv_iconst (v := 1) X.1 X.2.1 dX6_leap_151 (by decide) ?_
      refine ab_aldR X S hF rfl (by decide) dX6_leap_152 (fun x22 hF => ?_)
      refine ab_getR X S hF fi_3_0 lf_X6_144 dX6_leap_153 (fun x23 hF => ?_)
      refine lv_iload X.1 X.2.1 dX6_leap_156 (lv_at hl 3 rfl) ?_
      refine ab_aldD X S hF dX6_leap_158 (fun x24 hF => ?_)
      obtain ⟨a28, e29, hF⟩ := bind_out hF
      obtain ⟨x25, h26, e27, hF⟩ := bnd_out hF
      refine ab_callVv X S e29 (c_X6_arrive l D cA sz e27) rfl (by decide) mi_X6_arrive lm_X6_148 li_yX6_arrive ls_yX6_arrive (As := [va_rf x18, .int v4, va_rf x19, .double x20, .double x24]) (rest := []) rfl ⟨by decide, by decide⟩ ⟨(by decide), (by decide)⟩ hl.1 rfl (by simp [ab_cat, ab_cI, ab_cJ, ab_cD, ab_cF]) dX6_leap_159 (fun H1 locs1 S => ?_)
      refine lv_iinc (v := v4 + 1) (lv' := [(4, .int (v4 + 1)), (0, va_rf v0), (1, .double v1), (3, .int v3)]) X.1 X.2.1 dX6_leap_162 hl (k := 3) rfl (by rfl) (by decide) (by simp [ab_cat, ab_cI, ab_cJ, ab_cD, ab_cF]) (fun ls hl => ?_)
      refine lv_goto (tgt := 119) X.1 X.2.1 dX6_leap_165 (by decide) ?_
      exact ih _ _ _ _ _ _ _ _ S (lv_sub hl [1, 2, 3, 0] rfl) hF
def f_X6_leap_33  : Nat → Option Nat → UInt64 → Int32 → Int32 → Hp → Option (Int32 × Hp)
  | 0, _, _, _, _, _ => none
  | n + 1, v0, v1, v3, v4, h => (getR h v0 6 1).bind fun x1 =>
    (getI h x1 1 1).bind fun x2 =>
    if x2 ≤ v4 then
      (getD h v0 6 3).bind fun x4 =>
      (fop (FP.dadd x4 v1)).bind fun x5 =>
      (getR h v0 6 7).bind fun x6 =>
      (ab_ck h v0 (6, 0)).bind fun a10 =>
      bnd (f_X6_slope a10 1 x5 x6 h) fun x7 h8 =>
      if ¬ x7 = 0 then
        (getR h8 v0 6 8).bind fun x13 =>
        (getR h8 v0 6 7).bind fun x14 =>
        (ab_ck h8 x13 (3, 0)).bind fun a18 =>
        bnd (f_X3_copy a18 x14 h8) fun _ h16 =>
        f_X6_leap_119 fuelN v0 v1 v3 0 h16
      else
        if 0 = 0 ∨ 0 = 1 then some (0, h8) else none
    else
      (getR h v0 6 0).bind fun x20 =>
      (ab_ck h x20 (2, 0)).bind fun a24 =>
      bnd (f_X2_begin a24 h) fun _ h22 =>
      (getR h22 v0 6 7).bind fun x26 =>
      (getR h22 v0 6 6).bind fun x27 =>
      (getR h22 v0 6 9).bind fun x28 =>
      (aldR h22 x28 14 0).bind fun x29 =>
      (getR h22 x29 3 0).bind fun x30 =>
      (aldD h22 x30 v4).bind fun x31 =>
      (ab_ck h22 v0 (6, 0)).bind fun a35 =>
      bnd (f_X6_arrive a35 x26 v4 x27 v1 x31 h22) fun _ h33 =>
      f_X6_leap_33 n v0 v1 v3 (v4 + 1) h33
set_option maxHeartbeats 4000000 in
set_option maxRecDepth 100000 in
theorem w_X6_leap_33 {p : Program} {l : Launch} {e : Env} {s : State} {m : MethodId} {args : Array Value} {below : List Frame} {meth : Method} {c : Code} {D : va_G} {cA : Nat → ClassId} {sz : Nat} {rr : Int32} {hh : Hp}  (X : ab_X p s m args meth c cX6_leap 5 RX6 D cA sz) (hr : meth.sig.returnType = (some .boolean))  (n : Nat) : ∀ (v0 : Option Nat) (v1 : UInt64) (v3 : Int32) (v4 : Int32) (h : Hp) (H : Heap) (locs : List Loc) (ls : Array Slot), ab_H D cA sz h s H locs → lv_has ls 5 [(0, va_rf v0), (1, .double v1), (3, .int v3), (4, .int v4)] → f_X6_leap_33 n v0 v1 v3 v4 h = some (rr, hh) → W p l e (ab_rm 4 0 0) s m args below meth c H locs 0 0 (MQ below (ab_Q D cA sz (some (.int rr)) hh) args s 0 0 (fun q => sz ≤ q)) (F0 m 33 ls []) := by
  induction n with
  | zero => intro v0 v1 v3 v4 h H locs ls S hl hF; cases hF
  | succ n ih =>
    intro v0 v1 v3 v4 h H locs ls S hl hF
    rw [f_X6_leap_33] at hF
    refine lv_iload X.1 X.2.1 dX6_leap_33 (lv_at hl 3 rfl) ?_
    refine ab_aload_n X dX6_leap_35 rfl (lv_at hl 0 rfl) ?_
    refine ab_getR X S hF fi_6_1 lf_X6_40 dX6_leap_36 (fun x1 hF => ?_)
    refine ab_getI X S hF fi_1_1 lf_X6_95 dX6_leap_39 (fun x2 hF => ?_)
    refine lv_icmp_ge (tgt := 85) X.1 X.2.1 dX6_leap_42 (by decide) (fun c3 => ?_) (fun c3 => ?_)
    · have hF := ab_pos c3 hF
      refine ab_aload_n X dX6_leap_85 rfl (lv_at hl 0 rfl) ?_
      refine lv_iconst (v := 1) X.1 X.2.1 dX6_leap_86 (by decide) ?_
      refine ab_aload_n X dX6_leap_87 rfl (lv_at hl 0 rfl) ?_
      refine ab_getD X S hF fi_6_3 lf_X6_48 dX6_leap_88 (fun x4 hF => ?_)
      refine lv_dload_n X.1 X.2.1 dX6_leap_91 rfl (lv_at hl 1 rfl) ?_
      obtain ⟨x5, ev, ne, hF⟩ := ab_fopx hF
      refine lv_dadd X.1 X.2.1 dX6_leap_92 ne ?_
      rw [ev]
      refine ab_aload_n X dX6_leap_93 rfl (lv_at hl 0 rfl) ?_
      refine ab_getR X S hF fi_6_7 lf_X6_24 dX6_leap_94 (fun x6 hF => ?_)
      obtain ⟨a10, e11, hF⟩ := bind_out hF
      obtain ⟨x7, h8, e9, hF⟩ := bnd_out hF
      refine ab_callVi X S e11 (c_X6_slope l D cA sz e9) rfl (by decide) mi_X6_slope lm_X6_68 li_yX6_slope ls_yX6_slope (As := [.int 1, .double x5, va_rf x6]) (rest := []) rfl ⟨by decide, by decide⟩ ⟨(by decide), (by decide)⟩ hl.1 rfl (by simp [ab_cat, ab_cI, ab_cJ, ab_cD, ab_cF]) dX6_leap_97 (fun H1 locs1 S => ?_)
      refine lv_if_ne (tgt := 105) X.1 X.2.1 dX6_leap_100 (by decide) (fun c12 => ?_) (fun c12 => ?_)
      · have hF := ab_pos c12 hF
        refine ab_aload_n X dX6_leap_105 rfl (lv_at hl 0 rfl) ?_
        refine ab_getR X S hF fi_6_8 lf_X6_27 dX6_leap_106 (fun x13 hF => ?_)
        refine ab_aload_n X dX6_leap_109 rfl (lv_at hl 0 rfl) ?_
        refine ab_getR X S hF fi_6_7 lf_X6_24 dX6_leap_110 (fun x14 hF => ?_)
        obtain ⟨a18, e19, hF⟩ := bind_out hF
        obtain ⟨x15, h16, e17, hF⟩ := bnd_out hF
        refine ab_callVv X S e19 (c_X3_copy l D cA sz e17) rfl (by decide) mi_X3_copy lm_X6_58 li_yX3_copy ls_yX3_copy (As := [va_rf x14]) (rest := []) rfl ⟨by decide, by decide⟩ ⟨(by decide), (by decide)⟩ hl.1 rfl (by simp [ab_cat, ab_cI, ab_cJ, ab_cD, ab_cF]) dX6_leap_113 (fun H1 locs1 S => ?_)
        refine lv_iconst (v := 0) X.1 X.2.1 dX6_leap_116 (by decide) ?_
        refine lv_istore (lv' := [(4, .int 0), (0, va_rf v0), (1, .double v1), (3, .int v3)]) X.1 X.2.1 dX6_leap_117 hl (by decide) (by simp [ab_cat, ab_cI, ab_cJ, ab_cD, ab_cF]) (fun ls hl => ?_)
        exact w_X6_leap_119 X hr  fuelN _ _ _ _ _ _ _ _ S (lv_sub hl [1, 2, 3, 0] rfl) hF
      · have hF := ab_neg (fun q => q c12) hF
        refine lv_iconst (v := 0) X.1 X.2.1 dX6_leap_103 (by decide) ?_
        exact ab_zret X S hr hF dX6_leap_104
    · have hF := ab_neg c3 hF
      refine ab_aload_n X dX6_leap_45 rfl (lv_at hl 0 rfl) ?_
      refine ab_getR X S hF fi_6_0 lf_X6_9 dX6_leap_46 (fun x20 hF => ?_)
      obtain ⟨a24, e25, hF⟩ := bind_out hF
      obtain ⟨x21, h22, e23, hF⟩ := bnd_out hF
      refine ab_callVv X S e25 (c_X2_begin l D cA sz e23) rfl (by decide) mi_X2_begin lm_X6_141 li_yX2_begin ls_yX2_begin (As := []) (rest := []) rfl ⟨by decide, by decide⟩ ⟨(by decide), (by decide)⟩ hl.1 rfl (by simp [ab_cat, ab_cI, ab_cJ, ab_cD, ab_cF]) dX6_leap_49 (fun H1 locs1 S => ?_)
      refine ab_aload_n X dX6_leap_52 rfl (lv_at hl 0 rfl) ?_
      refine ab_aload_n X dX6_leap_53 rfl (lv_at hl 0 rfl) ?_
      refine ab_getR X S hF fi_6_7 lf_X6_24 dX6_leap_54 (fun x26 hF => ?_)
      refine lv_iload X.1 X.2.1 dX6_leap_57 (lv_at hl 3 rfl) ?_
      refine ab_aload_n X dX6_leap_59 rfl (lv_at hl 0 rfl) ?_
      refine ab_getR X S hF fi_6_6 lf_X6_20 dX6_leap_60 (fun x27 hF => ?_)
      refine lv_dload_n X.1 X.2.1 dX6_leap_63 rfl (lv_at hl 1 rfl) ?_
      refine ab_aload_n X dX6_leap_64 rfl (lv_at hl 0 rfl) ?_
      refine ab_getR X S hF fi_6_9 lf_X6_30 dX6_leap_65 (fun x28 hF => ?_)
      refine lv_iconst (v := 0) X.1 X.2.1 dX6_leap_68 (by decide) ?_
      refine ab_aldR X S hF rfl (by decide) dX6_leap_69 (fun x29 hF => ?_)
      refine ab_getR X S hF fi_3_0 lf_X6_144 dX6_leap_70 (fun x30 hF => ?_)
      refine lv_iload X.1 X.2.1 dX6_leap_73 (lv_at hl 3 rfl) ?_
      refine ab_aldD X S hF dX6_leap_75 (fun x31 hF => ?_)
      obtain ⟨a35, e36, hF⟩ := bind_out hF
      obtain ⟨x32, h33, e34, hF⟩ := bnd_out hF
      refine ab_callVv X S e36 (c_X6_arrive l D cA sz e34) rfl (by decide) mi_X6_arrive lm_X6_148 li_yX6_arrive ls_yX6_arrive (As := [va_rf x26, .int v4, va_rf x27, .double v1, .double x31]) (rest := []) rfl ⟨by decide, by decide⟩ ⟨(by decide), (by decide)⟩ hl.1 rfl (by simp [ab_cat, ab_cI, ab_cJ, ab_cD, ab_cF]) dX6_leap_76 (fun H1 locs1 S => ?_)
      refine lv_iinc (v := v4 + 1) (lv' := [(4, .int (v4 + 1)), (0, va_rf v0), (1, .double v1), (3, .int v3)]) X.1 X.2.1 dX6_leap_79 hl (k := 3) rfl (by rfl) (by decide) (by simp [ab_cat, ab_cI, ab_cJ, ab_cD, ab_cF]) (fun ls hl => ?_)
      refine lv_goto (tgt := 33) X.1 X.2.1 dX6_leap_82 (by decide) ?_
      exact ih _ _ _ _ _ _ _ _ S (lv_sub hl [1, 2, 3, 0] rfl) hF
def f_X6_leap (this : Nat) (h : Hp) : Option (Int32 × Hp) :=
  (getD h (some this) 6 4).bind fun x1 =>
  (fop (FP.ddiv x1 4611686018427387904)).bind fun x2 =>
  (getR h (some this) 6 1).bind fun x3 =>
  (getI h x3 1 1).bind fun x4 =>
  (getR h (some this) 6 7).bind fun x5 =>
  (getR h (some this) 6 6).bind fun x6 =>
  (ab_ck h x5 (3, 0)).bind fun a10 =>
  bnd (f_X3_copy a10 x6 h) fun _ h8 =>
  f_X6_leap_33 fuelN (some this) x2 (x4 / 2) (x4 / 2) h8
theorem mi_X6_leap : ab_MI yX6_leap cX6_leap 5 (some .boolean) 0 := ⟨lc_yX6_leap, lz_RX6, by decide, by decide, by decide +kernel⟩
set_option maxHeartbeats 4000000 in
set_option maxRecDepth 100000 in
theorem c_X6_leap (l : Launch) (D : va_G) (cA : Nat → ClassId) (sz : Nat) {this : Nat} {h hh : Hp} {rr : Int32} (hF : f_X6_leap this h = some (rr, hh)) : ab_C l D cA sz yX6_leap cX6_leap 5 (some .boolean) 4 0 0 [.ref this] h (some (.int rr)) hh := by
  refine Met.ofW (cc := cX6_leap) (maxL := 5) (ret := (some .boolean)) (by decide) rfl ?_
  intro p e s m args below meth c s₁ B hml hv
  obtain ⟨rfl, hT, hR⟩ := hv
  have X : ab_X p s m _ meth c cX6_leap 5 RX6 D cA sz := (ab_enter B hml hT hR).1
  have S := (ab_enter B hml hT hR).2
  have hr := B.returns
  obtain ⟨ls, hls, hl⟩ := ab_entry m [.ref this] 5 (lv := [(0, .ref this)]) (by simp [lg_sl, ab_cat, ab_cI, ab_cJ, ab_cD, ab_cF, ab_cA]) (by simp [lv_args, ab_cat, ab_cI, ab_cJ, ab_cD, ab_cF, ab_cA])
  rw [hls]
  have hl : lv_has ls 5 [(0, va_rf (some this))] := hl
  unfold f_X6_leap at hF
  show W p l e (ab_rm 4 0 0) s m _ below meth c s.heap [] 0 0 _ _
  refine ab_aload_n X dX6_leap_0 rfl (lv_at hl 0 rfl) ?_
  refine ab_getD X S hF fi_6_4 lf_X6_52 dX6_leap_1 (fun x1 hF => ?_)
  refine lv_ldc2d (v := 4611686018427387904) X.1 X.2.1 X.2.2.2.1 (X.2.2.2.2.1 _ ld_X6_152) dX6_leap_4 ?_
  obtain ⟨x2, ev, ne, hF⟩ := ab_fopx hF
  refine lv_ddiv X.1 X.2.1 dX6_leap_7 ne ?_
  rw [ev]
  refine lv_dstore_n (i := 1) (lv' := [(1, .double x2), (0, va_rf (some this))]) X.1 X.2.1 dX6_leap_8 rfl hl (by decide) (by simp [ab_cat, ab_cI, ab_cJ, ab_cD, ab_cF]) (fun ls hl => ?_)
  refine ab_aload_n X dX6_leap_9 rfl (lv_at hl 1 rfl) ?_
  refine ab_getR X S hF fi_6_1 lf_X6_40 dX6_leap_10 (fun x3 hF => ?_)
  refine ab_getI X S hF fi_1_1 lf_X6_95 dX6_leap_13 (fun x4 hF => ?_)
  refine lv_iconst (v := 2) X.1 X.2.1 dX6_leap_16 (by decide) ?_
  refine lv_idiv X.1 X.2.1 dX6_leap_17 (by decide) ?_
  refine lv_istore_n (i := 3) (lv' := [(3, .int (x4 / 2)), (1, .double x2), (0, va_rf (some this))]) X.1 X.2.1 dX6_leap_18 rfl hl (by decide) (by simp [ab_cat, ab_cI, ab_cJ, ab_cD, ab_cF]) (fun ls hl => ?_)
  refine ab_aload_n X dX6_leap_19 rfl (lv_at hl 2 rfl) ?_
  refine ab_getR X S hF fi_6_7 lf_X6_24 dX6_leap_20 (fun x5 hF => ?_)
  refine ab_aload_n X dX6_leap_23 rfl (lv_at hl 2 rfl) ?_
  refine ab_getR X S hF fi_6_6 lf_X6_20 dX6_leap_24 (fun x6 hF => ?_)
  obtain ⟨a10, e11, hF⟩ := bind_out hF
  obtain ⟨x7, h8, e9, hF⟩ := bnd_out hF
  refine ab_callVv X S e11 (c_X3_copy l D cA sz e9) rfl (by decide) mi_X3_copy lm_X6_58 li_yX3_copy ls_yX3_copy (As := [va_rf x6]) (rest := []) rfl ⟨by decide, by decide⟩ ⟨(by decide), (by decide)⟩ hl.1 rfl (by simp [ab_cat, ab_cI, ab_cJ, ab_cD, ab_cF]) dX6_leap_27 (fun H1 locs1 S => ?_)
  refine lv_iload_n X.1 X.2.1 dX6_leap_30 rfl (lv_at hl 0 rfl) ?_
  refine lv_istore (lv' := [(4, .int (x4 / 2)), (3, .int (x4 / 2)), (1, .double x2), (0, va_rf (some this))]) X.1 X.2.1 dX6_leap_31 hl (by decide) (by simp [ab_cat, ab_cI, ab_cJ, ab_cD, ab_cF]) (fun ls hl => ?_)
  exact w_X6_leap_33 X hr  fuelN _ _ _ _ _ _ _ _ S (lv_sub hl [3, 2, 1, 0] rfl) hF
