def f_X9_keepsStep_228  : Nat → Option Nat → Int32 → Int32 → Int32 → Hp → Option (Unit × Hp)
  | 0, _, _, _, _, _ => none
  | n + 1, v0, v1, v3, v6, h => if v3 ≤ v6 then
      some ((), h)
    else
      (getR h v0 9 43).bind fun x2 =>
      (getR h v0 9 50).bind fun x3 =>
      (aldD h x3 v6).bind fun x4 =>
      (astD h x2 ((6 * v1) + v6) x4).bind fun h5 =>
      f_X9_keepsStep_228 n v0 v1 v3 (v6 + 1) h5
set_option maxHeartbeats 4000000 in
set_option maxRecDepth 100000 in
theorem w_X9_keepsStep_228 {p : Program} {l : Launch} {e : Env} {s : State} {m : MethodId} {args : Array Value} {below : List Frame} {meth : Method} {c : Code} {D : va_G} {cA : Nat → ClassId} {sz : Nat}  {hh : Hp}  (X : ab_X p s m args meth c cX9_keepsStep 8 RX9 D cA sz) (hr : meth.sig.returnType = none)  (n : Nat) : ∀ (v0 : Option Nat) (v1 : Int32) (v3 : Int32) (v6 : Int32) (h : Hp) (H : Heap) (locs : List Loc) (ls : Array Slot), ab_H D cA sz h s H locs → lv_has ls 8 [(0, va_rf v0), (1, .int v1), (3, .int v3), (6, .int v6)] → f_X9_keepsStep_228 n v0 v1 v3 v6 h = some ((), hh) → W p l e (ab_rm 6 0 0) s m args below meth c H locs 0 0 (MQ below (ab_Q D cA sz none hh) args s 0 0 (fun q => sz ≤ q)) (F0 m 228 ls []) := by
  induction n with
  | zero => intro v0 v1 v3 v6 h H locs ls S hl hF; cases hF
  | succ n ih =>
    intro v0 v1 v3 v6 h H locs ls S hl hF
    rw [f_X9_keepsStep_228] at hF
    refine lv_iload X.1 X.2.1 dX9_keepsStep_228 (lv_at hl 3 rfl) ?_
    refine lv_iload_n X.1 X.2.1 dX9_keepsStep_230 rfl (lv_at hl 2 rfl) ?_
    refine lv_icmp_ge (tgt := 259) X.1 X.2.1 dX9_keepsStep_231 (by decide) (fun c1 => ?_) (fun c1 => ?_)
    · have hF := ab_pos c1 hF
      exact ab_vret X S hr hF dX9_keepsStep_259
    · have hF := ab_neg c1 hF
      refine ab_aload_n X dX9_keepsStep_234 rfl (lv_at hl 0 rfl) ?_
      refine ab_getR X S hF fi_9_43 lf_X9_137 dX9_keepsStep_235 (fun x2 hF => ?_)
      refine lv_bipush (v := 6) X.1 X.2.1 dX9_keepsStep_238 (by decide) ?_
      refine lv_iload_n X.1 X.2.1 dX9_keepsStep_240 rfl (lv_at hl 1 rfl) ?_
      refine lv_imul X.1 X.2.1 dX9_keepsStep_241 ?_
      refine lv_iload X.1 X.2.1 dX9_keepsStep_242 (lv_at hl 3 rfl) ?_
      refine lv_iadd X.1 X.2.1 dX9_keepsStep_244 ?_
      refine ab_aload_n X dX9_keepsStep_245 rfl (lv_at hl 0 rfl) ?_
      refine ab_getR X S hF fi_9_50 lf_X9_155 dX9_keepsStep_246 (fun x3 hF => ?_)
      refine lv_iload X.1 X.2.1 dX9_keepsStep_249 (lv_at hl 3 rfl) ?_
      refine ab_aldD X S hF dX9_keepsStep_251 (fun x4 hF => ?_)
      refine ab_astD X S hF dX9_keepsStep_252 (fun h5 H1 locs1 hF S => ?_)
      refine lv_iinc (v := v6 + 1) (lv' := [(6, .int (v6 + 1)), (0, va_rf v0), (1, .int v1), (3, .int v3)]) X.1 X.2.1 dX9_keepsStep_253 hl (k := 3) rfl (by rfl) (by decide) (by simp [ab_cat, ab_cI, ab_cJ, ab_cD, ab_cF]) (fun ls hl => ?_)
      refine lv_goto (tgt := 228) X.1 X.2.1 dX9_keepsStep_256 (by decide) ?_
      exact ih _ _ _ _ _ _ _ _ S (lv_sub hl [1, 2, 3, 0] rfl) hF
def f_X9_keepsStep_52  : Nat → Option Nat → Int32 → Int32 → Int32 → UInt64 → Int32 → Hp → Option (Unit × Hp)
  | 0, _, _, _, _, _, _, _ => none
  | n + 1, v0, v1, v2, v3, v4, v6, h => if v3 ≤ v6 then
      (getR h v0 9 25).bind fun x2 =>
      (aldD h x2 v1).bind fun x3 =>
      (fop (FP.dadd x3 v4)).bind fun x4 =>
      (getR h v0 9 49).bind fun x5 =>
      (getR h v0 9 50).bind fun x6 =>
      (ab_ck h v0 (9, 0)).bind fun a10 =>
      bnd (f_X9_rates a10 v2 x4 x5 x6 h) fun _ h8 =>
      f_X9_keepsStep_228 fuelN v0 v1 v3 0 h8
    else
      (getR h v0 9 40).bind fun x12 =>
      (getR h v0 9 47).bind fun x13 =>
      (aldD h x13 v6).bind fun x14 =>
      (astD h x12 ((6 * v1) + v6) x14).bind fun h15 =>
      (getR h15 v0 9 41).bind fun x16 =>
      (getR h15 v0 9 49).bind fun x17 =>
      (aldD h15 x17 v6).bind fun x18 =>
      (astD h15 x16 ((6 * v1) + v6) x18).bind fun h19 =>
      (getR h19 v0 9 42).bind fun x20 =>
      (getR h19 v0 9 52).bind fun x21 =>
      (aldD h19 x21 v6).bind fun x22 =>
      (astD h19 x20 ((6 * v1) + v6) x22).bind fun h23 =>
      (getR h23 v0 9 44).bind fun x24 =>
      (getR h23 v0 9 52).bind fun x25 =>
      (aldD h23 x25 v6).bind fun x26 =>
      (astD h23 x24 (5 * ((6 * v1) + v6)) x26).bind fun h27 =>
      (getR h27 v0 9 44).bind fun x28 =>
      (getR h27 v0 9 53).bind fun x29 =>
      (aldD h27 x29 v6).bind fun x30 =>
      (astD h27 x28 ((5 * ((6 * v1) + v6)) + 1) x30).bind fun h31 =>
      (getR h31 v0 9 44).bind fun x32 =>
      (getR h31 v0 9 54).bind fun x33 =>
      (aldD h31 x33 v6).bind fun x34 =>
      (astD h31 x32 ((5 * ((6 * v1) + v6)) + 2) x34).bind fun h35 =>
      (getR h35 v0 9 44).bind fun x36 =>
      (getR h35 v0 9 55).bind fun x37 =>
      (aldD h35 x37 v6).bind fun x38 =>
      (astD h35 x36 ((5 * ((6 * v1) + v6)) + 3) x38).bind fun h39 =>
      (getR h39 v0 9 44).bind fun x40 =>
      (getR h39 v0 9 51).bind fun x41 =>
      (aldD h39 x41 v6).bind fun x42 =>
      (astD h39 x40 ((5 * ((6 * v1) + v6)) + 4) x42).bind fun h43 =>
      f_X9_keepsStep_52 n v0 v1 v2 v3 v4 (v6 + 1) h43
set_option maxHeartbeats 4000000 in
set_option maxRecDepth 100000 in
theorem w_X9_keepsStep_52 {p : Program} {l : Launch} {e : Env} {s : State} {m : MethodId} {args : Array Value} {below : List Frame} {meth : Method} {c : Code} {D : va_G} {cA : Nat → ClassId} {sz : Nat}  {hh : Hp}  (X : ab_X p s m args meth c cX9_keepsStep 8 RX9 D cA sz) (hr : meth.sig.returnType = none)  (n : Nat) : ∀ (v0 : Option Nat) (v1 : Int32) (v2 : Int32) (v3 : Int32) (v4 : UInt64) (v6 : Int32) (h : Hp) (H : Heap) (locs : List Loc) (ls : Array Slot), ab_H D cA sz h s H locs → lv_has ls 8 [(0, va_rf v0), (1, .int v1), (2, .int v2), (3, .int v3), (4, .double v4), (6, .int v6)] → f_X9_keepsStep_52 n v0 v1 v2 v3 v4 v6 h = some ((), hh) → W p l e (ab_rm 6 0 0) s m args below meth c H locs 0 0 (MQ below (ab_Q D cA sz none hh) args s 0 0 (fun q => sz ≤ q)) (F0 m 52 ls []) := by
  induction n with
  | zero => intro v0 v1 v2 v3 v4 v6 h H locs ls S hl hF; cases hF
  | succ n ih =>
    intro v0 v1 v2 v3 v4 v6 h H locs ls S hl hF
    rw [f_X9_keepsStep_52] at hF
    refine lv_iload X.1 X.2.1 dX9_keepsStep_52 (lv_at hl 5 rfl) ?_
    refine lv_iload_n X.1 X.2.1 dX9_keepsStep_54 rfl (lv_at hl 3 rfl) ?_
    refine lv_icmp_ge (tgt := 203) X.1 X.2.1 dX9_keepsStep_55 (by decide) (fun c1 => ?_) (fun c1 => ?_)
    · have hF := ab_pos c1 hF
      refine ab_aload_n X dX9_keepsStep_203 rfl (lv_at hl 0 rfl) ?_
      refine lv_iload_n X.1 X.2.1 dX9_keepsStep_204 rfl (lv_at hl 2 rfl) ?_
      refine ab_aload_n X dX9_keepsStep_205 rfl (lv_at hl 0 rfl) ?_
      refine ab_getR X S hF fi_9_25 lf_X9_83 dX9_keepsStep_206 (fun x2 hF => ?_)
      refine lv_iload_n X.1 X.2.1 dX9_keepsStep_209 rfl (lv_at hl 1 rfl) ?_
      refine ab_aldD X S hF dX9_keepsStep_210 (fun x3 hF => ?_)
      refine lv_dload X.1 X.2.1 dX9_keepsStep_211 (lv_at hl 4 rfl) ?_
      obtain ⟨x4, ev, ne, hF⟩ := ab_fopx hF
      refine lv_dadd X.1 X.2.1 dX9_keepsStep_213 ne ?_
      rw [ev]
      refine ab_aload_n X dX9_keepsStep_214 rfl (lv_at hl 0 rfl) ?_
      refine ab_getR X S hF fi_9_49 lf_X9_152 dX9_keepsStep_215 (fun x5 hF => ?_)
      refine ab_aload_n X dX9_keepsStep_218 rfl (lv_at hl 0 rfl) ?_
      refine ab_getR X S hF fi_9_50 lf_X9_155 dX9_keepsStep_219 (fun x6 hF => ?_)
      obtain ⟨a10, e11, hF⟩ := bind_out hF
      obtain ⟨x7, h8, e9, hF⟩ := bnd_out hF
      refine ab_callVv X S e11 (c_X9_rates l D cA sz e9) rfl (by decide) mi_X9_rates lm_X9_254 li_yX9_rates ls_yX9_rates (As := [.int v2, .double x4, va_rf x5, va_rf x6]) (rest := []) rfl ⟨by decide, by decide⟩ ⟨(by decide), (by decide)⟩ hl.1 rfl (by simp [ab_cat, ab_cI, ab_cJ, ab_cD, ab_cF]) dX9_keepsStep_222 (fun H1 locs1 S => ?_)
      refine lv_iconst (v := 0) X.1 X.2.1 dX9_keepsStep_225 (by decide) ?_
      refine lv_istore (lv' := [(6, .int 0), (0, va_rf v0), (1, .int v1), (2, .int v2), (3, .int v3), (4, .double v4)]) X.1 X.2.1 dX9_keepsStep_226 hl (by decide) (by simp [ab_cat, ab_cI, ab_cJ, ab_cD, ab_cF]) (fun ls hl => ?_)
      exact w_X9_keepsStep_228 X hr  fuelN _ _ _ _ _ _ _ _ S (lv_sub hl [1, 2, 4, 0] rfl) hF
    · have hF := ab_neg c1 hF
      refine lv_bipush (v := 6) X.1 X.2.1 dX9_keepsStep_58 (by decide) ?_
      refine lv_iload_n X.1 X.2.1 dX9_keepsStep_60 rfl (lv_at hl 1 rfl) ?_
      refine lv_imul X.1 X.2.1 dX9_keepsStep_61 ?_
      refine lv_iload X.1 X.2.1 dX9_keepsStep_62 (lv_at hl 5 rfl) ?_
      refine lv_iadd X.1 X.2.1 dX9_keepsStep_64 ?_
      refine lv_istore (lv' := [(7, .int ((6 * v1) + v6)), (0, va_rf v0), (1, .int v1), (2, .int v2), (3, .int v3), (4, .double v4), (6, .int v6)]) X.1 X.2.1 dX9_keepsStep_65 hl (by decide) (by simp [ab_cat, ab_cI, ab_cJ, ab_cD, ab_cF]) (fun ls hl => ?_)
      refine ab_aload_n X dX9_keepsStep_67 rfl (lv_at hl 1 rfl) ?_
      refine ab_getR X S hF fi_9_40 lf_X9_128 dX9_keepsStep_68 (fun x12 hF => ?_)
      refine lv_iload X.1 X.2.1 dX9_keepsStep_71 (lv_at hl 0 rfl) ?_
      refine ab_aload_n X dX9_keepsStep_73 rfl (lv_at hl 1 rfl) ?_
      refine ab_getR X S hF fi_9_47 lf_X9_146 dX9_keepsStep_74 (fun x13 hF => ?_)
      refine lv_iload X.1 X.2.1 dX9_keepsStep_77 (lv_at hl 6 rfl) ?_
      refine ab_aldD X S hF dX9_keepsStep_79 (fun x14 hF => ?_)
      refine ab_astD X S hF dX9_keepsStep_80 (fun h15 H1 locs1 hF S => ?_)
      refine ab_aload_n X dX9_keepsStep_81 rfl (lv_at hl 1 rfl) ?_
      refine ab_getR X S hF fi_9_41 lf_X9_131 dX9_keepsStep_82 (fun x16 hF => ?_)
      refine lv_iload X.1 X.2.1 dX9_keepsStep_85 (lv_at hl 0 rfl) ?_
      refine ab_aload_n X dX9_keepsStep_87 rfl (lv_at hl 1 rfl) ?_
      refine ab_getR X S hF fi_9_49 lf_X9_152 dX9_keepsStep_88 (fun x17 hF => ?_)
      refine lv_iload X.1 X.2.1 dX9_keepsStep_91 (lv_at hl 6 rfl) ?_
      refine ab_aldD X S hF dX9_keepsStep_93 (fun x18 hF => ?_)
      refine ab_astD X S hF dX9_keepsStep_94 (fun h19 H1 locs1 hF S => ?_)
      refine ab_aload_n X dX9_keepsStep_95 rfl (lv_at hl 1 rfl) ?_
      refine ab_getR X S hF fi_9_42 lf_X9_134 dX9_keepsStep_96 (fun x20 hF => ?_)
      refine lv_iload X.1 X.2.1 dX9_keepsStep_99 (lv_at hl 0 rfl) ?_
      refine ab_aload_n X dX9_keepsStep_101 rfl (lv_at hl 1 rfl) ?_
      refine ab_getR X S hF fi_9_52 lf_X9_161 dX9_keepsStep_102 (fun x21 hF => ?_)
      refine lv_iload X.1 X.2.1 dX9_keepsStep_105 (lv_at hl 6 rfl) ?_
      refine ab_aldD X S hF dX9_keepsStep_107 (fun x22 hF => ?_)
      refine ab_astD X S hF dX9_keepsStep_108 (fun h23 H1 locs1 hF S => ?_)
      refine ab_aload_n X dX9_keepsStep_109 rfl (lv_at hl 1 rfl) ?_
      refine ab_getR X S hF fi_9_44 lf_X9_140 dX9_keepsStep_110 (fun x24 hF => ?_)
      refine lv_iconst (v := 5) X.1 X.2.1 dX9_keepsStep_113 (by decide) ?_
      refine lv_iload X.1 X.2.1 dX9_keepsStep_114 (lv_at hl 0 rfl) ?_
      refine lv_imul X.1 X.2.1 dX9_keepsStep_116 ?_
      refine ab_aload_n X dX9_keepsStep_117 rfl (lv_at hl 1 rfl) ?_
      refine ab_getR X S hF fi_9_52 lf_X9_161 dX9_keepsStep_118 (fun x25 hF => ?_)
      refine lv_iload X.1 X.2.1 dX9_keepsStep_121 (lv_at hl 6 rfl) ?_
      refine ab_aldD X S hF dX9_keepsStep_123 (fun x26 hF => ?_)
      refine ab_astD X S hF dX9_keepsStep_124 (fun h27 H1 locs1 hF S => ?_)
      refine ab_aload_n X dX9_keepsStep_125 rfl (lv_at hl 1 rfl) ?_
      refine ab_getR X S hF fi_9_44 lf_X9_140 dX9_keepsStep_126 (fun x28 hF => ?_)
      refine lv_iconst (v := 5) X.1 X.2.1 dX9_keepsStep_129 (by decide) ?_
      refine lv_iload X.1 X.2.1 dX9_keepsStep_130 (lv_at hl 0 rfl) ?_
      refine lv_imul X.1 X.2.1 dX9_keepsStep_132 ?_
      refine lv_iconst (v := 1) X.1 X.2.1 dX9_keepsStep_133 (by decide) ?_
      refine lv_iadd X.1 X.2.1 dX9_keepsStep_134 ?_
      refine ab_aload_n X dX9_keepsStep_135 rfl (lv_at hl 1 rfl) ?_
      refine ab_getR X S hF fi_9_53 lf_X9_164 dX9_keepsStep_136 (fun x29 hF => ?_)
      refine lv_iload X.1 X.2.1 dX9_keepsStep_139 (lv_at hl 6 rfl) ?_
      refine ab_aldD X S hF dX9_keepsStep_141 (fun x30 hF => ?_)
      refine ab_astD X S hF dX9_keepsStep_142 (fun h31 H1 locs1 hF S => ?_)
      refine ab_aload_n X dX9_keepsStep_143 rfl (lv_at hl 1 rfl) ?_
      refine ab_getR X S hF fi_9_44 lf_X9_140 dX9_keepsStep_144 (fun x32 hF => ?_)
      refine lv_iconst (v := 5) X.1 X.2.1 dX9_keepsStep_147 (by decide) ?_
      refine lv_iload X.1 X.2.1 dX9_keepsStep_148 (lv_at hl 0 rfl) ?_
      refine lv_imul X.1 X.2.1 dX9_keepsStep_150 ?_
      refine lv_iconst (v := 2) X.1 X.2.1 dX9_keepsStep_151 (by decide) ?_
      refine lv_iadd X.1 X.2.1 dX9_keepsStep_152 ?_
      refine ab_aload_n X dX9_keepsStep_153 rfl (lv_at hl 1 rfl) ?_
      refine ab_getR X S hF fi_9_54 lf_X9_167 dX9_keepsStep_154 (fun x33 hF => ?_)
      refine lv_iload X.1 X.2.1 dX9_keepsStep_157 (lv_at hl 6 rfl) ?_
      refine ab_aldD X S hF dX9_keepsStep_159 (fun x34 hF => ?_)
      refine ab_astD X S hF dX9_keepsStep_160 (fun h35 H1 locs1 hF S => ?_)
      refine ab_aload_n X dX9_keepsStep_161 rfl (lv_at hl 1 rfl) ?_
      refine ab_getR X S hF fi_9_44 lf_X9_140 dX9_keepsStep_162 (fun x36 hF => ?_)
      refine lv_iconst (v := 5) X.1 X.2.1 dX9_keepsStep_165 (by decide) ?_
      refine lv_iload X.1 X.2.1 dX9_keepsStep_166 (lv_at hl 0 rfl) ?_
      refine lv_imul X.1 X.2.1 dX9_keepsStep_168 ?_
      refine lv_iconst (v := 3) X.1 X.2.1 dX9_keepsStep_169 (by decide) ?_
      refine lv_iadd X.1 X.2.1 dX9_keepsStep_170 ?_
      refine ab_aload_n X dX9_keepsStep_171 rfl (lv_at hl 1 rfl) ?_
      refine ab_getR X S hF fi_9_55 lf_X9_170 dX9_keepsStep_172 (fun x37 hF => ?_)
      refine lv_iload X.1 X.2.1 dX9_keepsStep_175 (lv_at hl 6 rfl) ?_
      refine ab_aldD X S hF dX9_keepsStep_177 (fun x38 hF => ?_)
      refine ab_astD X S hF dX9_keepsStep_178 (fun h39 H1 locs1 hF S => ?_)
      refine ab_aload_n X dX9_keepsStep_179 rfl (lv_at hl 1 rfl) ?_
      refine ab_getR X S hF fi_9_44 lf_X9_140 dX9_keepsStep_180 (fun x40 hF => ?_)
      refine lv_iconst (v := 5) X.1 X.2.1 dX9_keepsStep_183 (by decide) ?_
      refine lv_iload X.1 X.2.1 dX9_keepsStep_184 (lv_at hl 0 rfl) ?_
      refine lv_imul X.1 X.2.1 dX9_keepsStep_186 ?_
      refine lv_iconst (v := 4) X.1 X.2.1 dX9_keepsStep_187 (by decide) ?_
      refine lv_iadd X.1 X.2.1 dX9_keepsStep_188 ?_
      refine ab_aload_n X dX9_keepsStep_189 rfl (lv_at hl 1 rfl) ?_
      refine ab_getR X S hF fi_9_51 lf_X9_158 dX9_keepsStep_190 (fun x41 hF => ?_)
      refine lv_iload X.1 X.2.1 dX9_keepsStep_193 (lv_at hl 6 rfl) ?_
      refine ab_aldD X S hF dX9_keepsStep_195 (fun x42 hF => ?_)
      refine ab_astD X S hF dX9_keepsStep_196 (fun h43 H1 locs1 hF S => ?_)
      refine lv_iinc (v := v6 + 1) (lv' := [(6, .int (v6 + 1)), (7, .int ((6 * v1) + v6)), (0, va_rf v0), (1, .int v1), (2, .int v2), (3, .int v3), (4, .double v4)]) X.1 X.2.1 dX9_keepsStep_197 hl (k := 6) rfl (by rfl) (by decide) (by simp [ab_cat, ab_cI, ab_cJ, ab_cD, ab_cF]) (fun ls hl => ?_)
      refine lv_goto (tgt := 52) X.1 X.2.1 dX9_keepsStep_200 (by decide) ?_
      exact ih _ _ _ _ _ _ _ _ _ _ S (lv_sub hl [2, 3, 4, 5, 6, 0] rfl) hF
def f_X9_keepsStep (this : Nat) (p0 : Int32) (p1 : Int32) (p2 : Int32) (p3 : UInt64) (h : Hp) : Option (Unit × Hp) :=
  (getR h (some this) 9 23).bind fun x1 =>
  (astZ h x1 p0 1).bind fun h2 =>
  (getR h2 (some this) 9 37).bind fun x3 =>
  (getR h2 (some this) 9 16).bind fun x4 =>
  (aldI h2 x4 11 p0).bind fun x5 =>
  (astI h2 x3 p0 x5).bind fun h6 =>
  (getR h6 (some this) 9 38).bind fun x7 =>
  (getR h6 (some this) 9 25).bind fun x8 =>
  (aldD h6 x8 p0).bind fun x9 =>
  (astD h6 x7 p0 x9).bind fun h10 =>
  (getR h10 (some this) 9 39).bind fun x11 =>
  (astD h10 x11 p0 p3).bind fun h12 =>
  (getR h12 (some this) 9 20).bind fun x13 =>
  (getI h12 (some this) 9 61).bind fun x14 =>
  (astI h12 x13 p0 x14).bind fun h15 =>
  f_X9_keepsStep_52 fuelN (some this) p0 p1 p2 p3 0 h15
theorem mi_X9_keepsStep : ab_MI yX9_keepsStep cX9_keepsStep 8 none 4 := ⟨lc_yX9_keepsStep, lz_RX9, by decide, by decide, by decide +kernel⟩
set_option maxHeartbeats 4000000 in
set_option maxRecDepth 100000 in
theorem c_X9_keepsStep (l : Launch) (D : va_G) (cA : Nat → ClassId) (sz : Nat) {this : Nat} {p0 : Int32} {p1 : Int32} {p2 : Int32} {p3 : UInt64} {h hh : Hp}  (hF : f_X9_keepsStep this p0 p1 p2 p3 h = some ((), hh)) : ab_C l D cA sz yX9_keepsStep cX9_keepsStep 8 none 6 0 0 [.ref this, .int p0, .int p1, .int p2, .double p3] h none hh := by
  refine Met.ofW (cc := cX9_keepsStep) (maxL := 8) (ret := none) (by decide) rfl ?_
  intro p e s m args below meth c s₁ B hml hv
  obtain ⟨rfl, hT, hR⟩ := hv
  have X : ab_X p s m _ meth c cX9_keepsStep 8 RX9 D cA sz := (ab_enter B hml hT hR).1
  have S := (ab_enter B hml hT hR).2
  have hr := B.returns
  obtain ⟨ls, hls, hl⟩ := ab_entry m [.ref this, .int p0, .int p1, .int p2, .double p3] 8 (lv := [(0, .ref this), (1, .int p0), (2, .int p1), (3, .int p2), (4, .double p3)]) (by simp [lg_sl, ab_cat, ab_cI, ab_cJ, ab_cD, ab_cF, ab_cA]) (by simp [lv_args, ab_cat, ab_cI, ab_cJ, ab_cD, ab_cF, ab_cA])
  rw [hls]
  have hl : lv_has ls 8 [(0, va_rf (some this)), (1, .int p0), (2, .int p1), (3, .int p2), (4, .double p3)] := hl
  unfold f_X9_keepsStep at hF
  show W p l e (ab_rm 6 0 0) s m _ below meth c s.heap [] 0 0 _ _
  refine ab_aload_n X dX9_keepsStep_0 rfl (lv_at hl 0 rfl) ?_
  refine ab_getR X S hF fi_9_23 lf_X9_77 dX9_keepsStep_1 (fun x1 hF => ?_)
  refine lv_iload_n X.1 X.2.1 dX9_keepsStep_4 rfl (lv_at hl 1 rfl) ?_
  refine lv_iconst (v := 1) X.1 X.2.1 dX9_keepsStep_5 (by decide) ?_
  refine ab_astZ X S hF dX9_keepsStep_6 (fun h2 H1 locs1 hF S => ?_)
  refine ab_aload_n X dX9_keepsStep_7 rfl (lv_at hl 0 rfl) ?_
  refine ab_getR X S hF fi_9_37 lf_X9_119 dX9_keepsStep_8 (fun x3 hF => ?_)
  refine lv_iload_n X.1 X.2.1 dX9_keepsStep_11 rfl (lv_at hl 1 rfl) ?_
  refine ab_aload_n X dX9_keepsStep_12 rfl (lv_at hl 0 rfl) ?_
  refine ab_getR X S hF fi_9_16 lf_X9_55 dX9_keepsStep_13 (fun x4 hF => ?_)
  refine lv_iload_n X.1 X.2.1 dX9_keepsStep_16 rfl (lv_at hl 1 rfl) ?_
  refine ab_aldI X S hF dX9_keepsStep_17 (fun x5 hF => ?_)
  refine ab_astI X S hF dX9_keepsStep_18 (fun h6 H1 locs1 hF S => ?_)
  refine ab_aload_n X dX9_keepsStep_19 rfl (lv_at hl 0 rfl) ?_
  refine ab_getR X S hF fi_9_38 lf_X9_122 dX9_keepsStep_20 (fun x7 hF => ?_)
  refine lv_iload_n X.1 X.2.1 dX9_keepsStep_23 rfl (lv_at hl 1 rfl) ?_
  refine ab_aload_n X dX9_keepsStep_24 rfl (lv_at hl 0 rfl) ?_
  refine ab_getR X S hF fi_9_25 lf_X9_83 dX9_keepsStep_25 (fun x8 hF => ?_)
  refine lv_iload_n X.1 X.2.1 dX9_keepsStep_28 rfl (lv_at hl 1 rfl) ?_
  refine ab_aldD X S hF dX9_keepsStep_29 (fun x9 hF => ?_)
  refine ab_astD X S hF dX9_keepsStep_30 (fun h10 H1 locs1 hF S => ?_)
  refine ab_aload_n X dX9_keepsStep_31 rfl (lv_at hl 0 rfl) ?_
  refine ab_getR X S hF fi_9_39 lf_X9_125 dX9_keepsStep_32 (fun x11 hF => ?_)
  refine lv_iload_n X.1 X.2.1 dX9_keepsStep_35 rfl (lv_at hl 1 rfl) ?_
  refine lv_dload X.1 X.2.1 dX9_keepsStep_36 (lv_at hl 4 rfl) ?_
  refine ab_astD X S hF dX9_keepsStep_38 (fun h12 H1 locs1 hF S => ?_)
  refine ab_aload_n X dX9_keepsStep_39 rfl (lv_at hl 0 rfl) ?_
  refine ab_getR X S hF fi_9_20 lf_X9_67 dX9_keepsStep_40 (fun x13 hF => ?_)
  refine lv_iload_n X.1 X.2.1 dX9_keepsStep_43 rfl (lv_at hl 1 rfl) ?_
  refine ab_aload_n X dX9_keepsStep_44 rfl (lv_at hl 0 rfl) ?_
  refine ab_getI X S hF fi_9_61 lf_X9_250 dX9_keepsStep_45 (fun x14 hF => ?_)
  refine ab_astI X S hF dX9_keepsStep_48 (fun h15 H1 locs1 hF S => ?_)
  refine lv_iconst (v := 0) X.1 X.2.1 dX9_keepsStep_49 (by decide) ?_
  refine lv_istore (lv' := [(6, .int 0), (0, va_rf (some this)), (1, .int p0), (2, .int p1), (3, .int p2), (4, .double p3)]) X.1 X.2.1 dX9_keepsStep_50 hl (by decide) (by simp [ab_cat, ab_cI, ab_cJ, ab_cD, ab_cF]) (fun ls hl => ?_)
  exact w_X9_keepsStep_52 X hr  fuelN _ _ _ _ _ _ _ _ _ _ S (lv_sub hl [1, 2, 3, 4, 5, 0] rfl) hF
def f_X9_cubic (this : Nat) (p0 : Int32) (p1 : Int32) (p2 : UInt64) (h : Hp) : Option (UInt64 × Hp) :=
  if ¬ (Op.cmpValue (FP.dcmp p2 FP.dconst0) CmpOp.l) = 0 then
    if ¬ (Op.cmpValue (FP.dcmp p2 FP.dconst1) CmpOp.l) = 0 then
      (fop (FP.dsub FP.dconst1 p2)).bind fun x3 =>
      (getR h (some this) 9 39).bind fun x4 =>
      (aldD h x4 p0).bind fun x5 =>
      (fop (FP.dmul x3 x3)).bind fun x6 =>
      (fop (FP.dmul 4611686018427387904 p2)).bind fun x7 =>
      (fop (FP.dadd FP.dconst1 x7)).bind fun x8 =>
      (getR h (some this) 9 40).bind fun x9 =>
      (aldD h x9 ((6 * p0) + p1)).bind fun x10 =>
      bnd (f_X9_times x8 x10 h) fun x11 h12 =>
      (fop (FP.dmul p2 x5)).bind fun x14 =>
      (getR h12 (some this) 9 42).bind fun x15 =>
      (aldD h12 x15 ((6 * p0) + p1)).bind fun x16 =>
      bnd (f_X9_times x14 x16 h12) fun x17 h18 =>
      bnd (f_X9_plus x11 x17 h18) fun x20 h21 =>
      bnd (f_X9_times x6 x20 h21) fun x23 h24 =>
      (fop (FP.dmul p2 p2)).bind fun x26 =>
      (fop (FP.dmul 4611686018427387904 x3)).bind fun x27 =>
      (fop (FP.dadd FP.dconst1 x27)).bind fun x28 =>
      (getR h24 (some this) 9 41).bind fun x29 =>
      (aldD h24 x29 ((6 * p0) + p1)).bind fun x30 =>
      bnd (f_X9_times x28 x30 h24) fun x31 h32 =>
      (fop (FP.dmul x3 x5)).bind fun x34 =>
      (getR h32 (some this) 9 43).bind fun x35 =>
      (aldD h32 x35 ((6 * p0) + p1)).bind fun x36 =>
      bnd (f_X9_times x34 x36 h32) fun x37 h38 =>
      bnd (f_X9_less x31 x37 h38) fun x40 h41 =>
      bnd (f_X9_times x26 x40 h41) fun x43 h44 =>
      (getR h44 (some this) 9 15).bind fun x46 =>
      (aldI h44 x46 11 p0).bind fun x47 =>
      bnd (f_X9_plus x23 x43 h44) fun x48 h49 =>
      (ab_ck h49 (some this) (9, 0)).bind fun a54 =>
      bnd (f_X9_put a54 x47 p1 x48 h49) fun x51 h52 =>
      some (x51, h52)
    else
      (getR h (some this) 9 41).bind fun x56 =>
      (aldD h x56 ((6 * p0) + p1)).bind fun x57 =>
      some (x57, h)
  else
    (getR h (some this) 9 40).bind fun x58 =>
    (aldD h x58 ((6 * p0) + p1)).bind fun x59 =>
    some (x59, h)
theorem mi_X9_cubic : ab_MI yX9_cubic cX9_cubic 14 (some .double) 3 := ⟨lc_yX9_cubic, lz_RX9, by decide, by decide, by decide +kernel⟩
set_option maxHeartbeats 4000000 in
set_option maxRecDepth 100000 in
theorem c_X9_cubic (l : Launch) (D : va_G) (cA : Nat → ClassId) (sz : Nat) {this : Nat} {p0 : Int32} {p1 : Int32} {p2 : UInt64} {h hh : Hp} {rr : UInt64} (hF : f_X9_cubic this p0 p1 p2 h = some (rr, hh)) : ab_C l D cA sz yX9_cubic cX9_cubic 14 (some .double) 2 0 0 [.ref this, .int p0, .int p1, .double p2] h (some (.double rr)) hh := by
  refine Met.ofW (cc := cX9_cubic) (maxL := 14) (ret := (some .double)) (by decide) rfl ?_
  intro p e s m args below meth c s₁ B hml hv
  obtain ⟨rfl, hT, hR⟩ := hv
  have X : ab_X p s m _ meth c cX9_cubic 14 RX9 D cA sz := (ab_enter B hml hT hR).1
  have S := (ab_enter B hml hT hR).2
  have hr := B.returns
  obtain ⟨ls, hls, hl⟩ := ab_entry m [.ref this, .int p0, .int p1, .double p2] 14 (lv := [(0, .ref this), (1, .int p0), (2, .int p1), (3, .double p2)]) (by simp [lg_sl, ab_cat, ab_cI, ab_cJ, ab_cD, ab_cF, ab_cA]) (by simp [lv_args, ab_cat, ab_cI, ab_cJ, ab_cD, ab_cF, ab_cA])
  rw [hls]
  have hl : lv_has ls 14 [(0, va_rf (some this)), (1, .int p0), (2, .int p1), (3, .double p2)] := hl
  unfold f_X9_cubic at hF
  show W p l e (ab_rm 2 0 0) s m _ below meth c s.heap [] 0 0 _ _
  refine lv_bipush (v := 6) X.1 X.2.1 dX9_cubic_0 (by decide) ?_
  refine lv_iload_n X.1 X.2.1 dX9_cubic_2 rfl (lv_at hl 1 rfl) ?_
  refine lv_imul X.1 X.2.1 dX9_cubic_3 ?_
  refine lv_iload_n X.1 X.2.1 dX9_cubic_4 rfl (lv_at hl 2 rfl) ?_
  refine lv_iadd X.1 X.2.1 dX9_cubic_5 ?_
  refine lv_istore (lv' := [(5, .int ((6 * p0) + p1)), (0, va_rf (some this)), (1, .int p0), (2, .int p1), (3, .double p2)]) X.1 X.2.1 dX9_cubic_6 hl (by decide) (by simp [ab_cat, ab_cI, ab_cJ, ab_cD, ab_cF]) (fun ls hl => ?_)
  refine lv_dload_n X.1 X.2.1 dX9_cubic_8 rfl (lv_at hl 4 rfl) ?_
  refine lv_dconst0 X.1 X.2.1 dX9_cubic_9 ?_
  refine lv_dcmp X.1 X.2.1 dX9_cubic_10 ?_
  refine lv_if_ne (tgt := 22) X.1 X.2.1 dX9_cubic_11 (by decide) (fun c1 => ?_) (fun c1 => ?_)
  · have hF := ab_pos c1 hF
    refine lv_dload_n X.1 X.2.1 dX9_cubic_22 rfl (lv_at hl 4 rfl) ?_
    refine lv_dconst1 X.1 X.2.1 dX9_cubic_23 ?_
    refine lv_dcmp X.1 X.2.1 dX9_cubic_24 ?_
    refine lv_if_ne (tgt := 36) X.1 X.2.1 dX9_cubic_25 (by decide) (fun c2 => ?_) (fun c2 => ?_)
    · have hF := ab_pos c2 hF
      refine lv_dconst1 X.1 X.2.1 dX9_cubic_36 ?_
      refine lv_dload_n X.1 X.2.1 dX9_cubic_37 rfl (lv_at hl 4 rfl) ?_
      obtain ⟨x3, ev, ne, hF⟩ := ab_fopx hF
      refine lv_dsub X.1 X.2.1 dX9_cubic_38 ne ?_
      rw [ev]
      refine lv_dstore (lv' := [(6, .double x3), (5, .int ((6 * p0) + p1)), (0, va_rf (some this)), (1, .int p0), (2, .int p1), (3, .double p2)]) X.1 X.2.1 dX9_cubic_39 hl (by decide) (by simp [ab_cat, ab_cI, ab_cJ, ab_cD, ab_cF]) (fun ls hl => ?_)
      refine ab_aload_n X dX9_cubic_41 rfl (lv_at hl 2 rfl) ?_
      refine ab_getR X S hF fi_9_39 lf_X9_125 dX9_cubic_42 (fun x4 hF => ?_)
      refine lv_iload_n X.1 X.2.1 dX9_cubic_45 rfl (lv_at hl 3 rfl) ?_
      refine ab_aldD X S hF dX9_cubic_46 (fun x5 hF => ?_)
      refine lv_dstore (lv' := [(8, .double x5), (6, .double x3), (5, .int ((6 * p0) + p1)), (0, va_rf (some this)), (1, .int p0), (2, .int p1), (3, .double p2)]) X.1 X.2.1 dX9_cubic_47 hl (by decide) (by simp [ab_cat, ab_cI, ab_cJ, ab_cD, ab_cF]) (fun ls hl => ?_)
      refine lv_dload X.1 X.2.1 dX9_cubic_49 (lv_at hl 1 rfl) ?_
      refine lv_dload X.1 X.2.1 dX9_cubic_51 (lv_at hl 1 rfl) ?_
      obtain ⟨x6, ev, ne, hF⟩ := ab_fopx hF
      refine lv_dmul X.1 X.2.1 dX9_cubic_53 ne ?_
      rw [ev]
      refine lv_dconst1 X.1 X.2.1 dX9_cubic_54 ?_
      refine lv_ldc2d (v := 4611686018427387904) X.1 X.2.1 X.2.2.2.1 (X.2.2.2.2.1 _ ld_X9_285) dX9_cubic_55 ?_
      refine lv_dload_n X.1 X.2.1 dX9_cubic_58 rfl (lv_at hl 6 rfl) ?_
      obtain ⟨x7, ev, ne, hF⟩ := ab_fopx hF
      refine lv_dmul X.1 X.2.1 dX9_cubic_59 ne ?_
      rw [ev]
      obtain ⟨x8, ev, ne, hF⟩ := ab_fopx hF
      refine lv_dadd X.1 X.2.1 dX9_cubic_60 ne ?_
      rw [ev]
      refine ab_aload_n X dX9_cubic_61 rfl (lv_at hl 3 rfl) ?_
      refine ab_getR X S hF fi_9_40 lf_X9_128 dX9_cubic_62 (fun x9 hF => ?_)
      refine lv_iload X.1 X.2.1 dX9_cubic_65 (lv_at hl 2 rfl) ?_
      refine ab_aldD X S hF dX9_cubic_67 (fun x10 hF => ?_)
      obtain ⟨x11, h12, e13, hF⟩ := bnd_out hF
      refine ab_callSd X S (c_X9_times l D cA sz e13) mi_X9_times lm_X9_211 lt_yX9_times (As := [.double x8, .double x10]) (rest := [.double x6]) rfl ⟨by decide, by decide⟩ ⟨(by decide), (by decide)⟩ hl.1 rfl (by simp [ab_cat, ab_cI, ab_cJ, ab_cD, ab_cF]) dX9_cubic_68 (fun H1 locs1 S => ?_)
      refine lv_dload_n X.1 X.2.1 dX9_cubic_71 rfl (lv_at hl 6 rfl) ?_
      refine lv_dload X.1 X.2.1 dX9_cubic_72 (lv_at hl 0 rfl) ?_
      obtain ⟨x14, ev, ne, hF⟩ := ab_fopx hF
      refine lv_dmul X.1 X.2.1 dX9_cubic_74 ne ?_
      rw [ev]
      refine ab_aload_n X dX9_cubic_75 rfl (lv_at hl 3 rfl) ?_
      refine ab_getR X S hF fi_9_42 lf_X9_134 dX9_cubic_76 (fun x15 hF => ?_)
      refine lv_iload X.1 X.2.1 dX9_cubic_79 (lv_at hl 2 rfl) ?_
      refine ab_aldD X S hF dX9_cubic_81 (fun x16 hF => ?_)
      obtain ⟨x17, h18, e19, hF⟩ := bnd_out hF
      refine ab_callSd X S (c_X9_times l D cA sz e19) mi_X9_times lm_X9_211 lt_yX9_times (As := [.double x14, .double x16]) (rest := [.double x11, .double x6]) rfl ⟨by decide, by decide⟩ ⟨(by decide), (by decide)⟩ hl.1 rfl (by simp [ab_cat, ab_cI, ab_cJ, ab_cD, ab_cF]) dX9_cubic_82 (fun H1 locs1 S => ?_)
      obtain ⟨x20, h21, e22, hF⟩ := bnd_out hF
      refine ab_callSd X S (c_X9_plus l D cA sz e22) mi_X9_plus lm_X9_214 lt_yX9_plus (As := [.double x11, .double x17]) (rest := [.double x6]) rfl ⟨by decide, by decide⟩ ⟨(by decide), (by decide)⟩ hl.1 rfl (by simp [ab_cat, ab_cI, ab_cJ, ab_cD, ab_cF]) dX9_cubic_85 (fun H1 locs1 S => ?_)
      obtain ⟨x23, h24, e25, hF⟩ := bnd_out hF
      refine ab_callSd X S (c_X9_times l D cA sz e25) mi_X9_times lm_X9_211 lt_yX9_times (As := [.double x6, .double x20]) (rest := []) rfl ⟨by decide, by decide⟩ ⟨(by decide), (by decide)⟩ hl.1 rfl (by simp [ab_cat, ab_cI, ab_cJ, ab_cD, ab_cF]) dX9_cubic_88 (fun H1 locs1 S => ?_)
      refine lv_dstore (lv' := [(10, .double x23), (8, .double x5), (6, .double x3), (5, .int ((6 * p0) + p1)), (0, va_rf (some this)), (1, .int p0), (2, .int p1), (3, .double p2)]) X.1 X.2.1 dX9_cubic_91 hl (by decide) (by simp [ab_cat, ab_cI, ab_cJ, ab_cD, ab_cF]) (fun ls hl => ?_)
      refine lv_dload_n X.1 X.2.1 dX9_cubic_93 rfl (lv_at hl 7 rfl) ?_
      refine lv_dload_n X.1 X.2.1 dX9_cubic_94 rfl (lv_at hl 7 rfl) ?_
      obtain ⟨x26, ev, ne, hF⟩ := ab_fopx hF
      refine lv_dmul X.1 X.2.1 dX9_cubic_95 ne ?_
      rw [ev]
      refine lv_dconst1 X.1 X.2.1 dX9_cubic_96 ?_
      refine lv_ldc2d (v := 4611686018427387904) X.1 X.2.1 X.2.2.2.1 (X.2.2.2.2.1 _ ld_X9_285) dX9_cubic_97 ?_
      refine lv_dload X.1 X.2.1 dX9_cubic_100 (lv_at hl 2 rfl) ?_
      obtain ⟨x27, ev, ne, hF⟩ := ab_fopx hF
      refine lv_dmul X.1 X.2.1 dX9_cubic_102 ne ?_
      rw [ev]
      obtain ⟨x28, ev, ne, hF⟩ := ab_fopx hF
      refine lv_dadd X.1 X.2.1 dX9_cubic_103 ne ?_
      rw [ev]
      refine ab_aload_n X dX9_cubic_104 rfl (lv_at hl 4 rfl) ?_
      refine ab_getR X S hF fi_9_41 lf_X9_131 dX9_cubic_105 (fun x29 hF => ?_)
      refine lv_iload X.1 X.2.1 dX9_cubic_108 (lv_at hl 3 rfl) ?_
      refine ab_aldD X S hF dX9_cubic_110 (fun x30 hF => ?_)
      obtain ⟨x31, h32, e33, hF⟩ := bnd_out hF
      refine ab_callSd X S (c_X9_times l D cA sz e33) mi_X9_times lm_X9_211 lt_yX9_times (As := [.double x28, .double x30]) (rest := [.double x26]) rfl ⟨by decide, by decide⟩ ⟨(by decide), (by decide)⟩ hl.1 rfl (by simp [ab_cat, ab_cI, ab_cJ, ab_cD, ab_cF]) dX9_cubic_111 (fun H1 locs1 S => ?_)
      refine lv_dload X.1 X.2.1 dX9_cubic_114 (lv_at hl 2 rfl) ?_
      refine lv_dload X.1 X.2.1 dX9_cubic_116 (lv_at hl 1 rfl) ?_
      obtain ⟨x34, ev, ne, hF⟩ := ab_fopx hF
      refine lv_dmul X.1 X.2.1 dX9_cubic_118 ne ?_
      rw [ev]
      refine ab_aload_n X dX9_cubic_119 rfl (lv_at hl 4 rfl) ?_
      refine ab_getR X S hF fi_9_43 lf_X9_137 dX9_cubic_120 (fun x35 hF => ?_)
      refine lv_iload X.1 X.2.1 dX9_cubic_123 (lv_at hl 3 rfl) ?_
      refine ab_aldD X S hF dX9_cubic_125 (fun x36 hF => ?_)
      obtain ⟨x37, h38, e39, hF⟩ := bnd_out hF
      refine ab_callSd X S (c_X9_times l D cA sz e39) mi_X9_times lm_X9_211 lt_yX9_times (As := [.double x34, .double x36]) (rest := [.double x31, .double x26]) rfl ⟨by decide, by decide⟩ ⟨(by decide), (by decide)⟩ hl.1 rfl (by simp [ab_cat, ab_cI, ab_cJ, ab_cD, ab_cF]) dX9_cubic_126 (fun H1 locs1 S => ?_)
      obtain ⟨x40, h41, e42, hF⟩ := bnd_out hF
      refine ab_callSd X S (c_X9_less l D cA sz e42) mi_X9_less lm_X9_204 lt_yX9_less (As := [.double x31, .double x37]) (rest := [.double x26]) rfl ⟨by decide, by decide⟩ ⟨(by decide), (by decide)⟩ hl.1 rfl (by simp [ab_cat, ab_cI, ab_cJ, ab_cD, ab_cF]) dX9_cubic_129 (fun H1 locs1 S => ?_)
      obtain ⟨x43, h44, e45, hF⟩ := bnd_out hF
      refine ab_callSd X S (c_X9_times l D cA sz e45) mi_X9_times lm_X9_211 lt_yX9_times (As := [.double x26, .double x40]) (rest := []) rfl ⟨by decide, by decide⟩ ⟨(by decide), (by decide)⟩ hl.1 rfl (by simp [ab_cat, ab_cI, ab_cJ, ab_cD, ab_cF]) dX9_cubic_132 (fun H1 locs1 S => ?_)
      refine lv_dstore (lv' := [(12, .double x43), (10, .double x23), (8, .double x5), (6, .double x3), (5, .int ((6 * p0) + p1)), (0, va_rf (some this)), (1, .int p0), (2, .int p1), (3, .double p2)]) X.1 X.2.1 dX9_cubic_135 hl (by decide) (by simp [ab_cat, ab_cI, ab_cJ, ab_cD, ab_cF]) (fun ls hl => ?_)
      refine ab_aload_n X dX9_cubic_137 rfl (lv_at hl 5 rfl) ?_
      refine ab_aload_n X dX9_cubic_138 rfl (lv_at hl 5 rfl) ?_
      refine ab_getR X S hF fi_9_15 lf_X9_52 dX9_cubic_139 (fun x46 hF => ?_)
      refine lv_iload_n X.1 X.2.1 dX9_cubic_142 rfl (lv_at hl 6 rfl) ?_
      refine ab_aldI X S hF dX9_cubic_143 (fun x47 hF => ?_)
      refine lv_iload_n X.1 X.2.1 dX9_cubic_144 rfl (lv_at hl 7 rfl) ?_
      refine lv_dload X.1 X.2.1 dX9_cubic_145 (lv_at hl 1 rfl) ?_
      refine lv_dload X.1 X.2.1 dX9_cubic_147 (lv_at hl 0 rfl) ?_
      obtain ⟨x48, h49, e50, hF⟩ := bnd_out hF
      refine ab_callSd X S (c_X9_plus l D cA sz e50) mi_X9_plus lm_X9_214 lt_yX9_plus (As := [.double x23, .double x43]) (rest := [.int p1, .int x47, va_rf (some this)]) rfl ⟨by decide, by decide⟩ ⟨(by decide), (by decide)⟩ hl.1 rfl (by simp [ab_cat, ab_cI, ab_cJ, ab_cD, ab_cF]) dX9_cubic_149 (fun H1 locs1 S => ?_)
      obtain ⟨a54, e55, hF⟩ := bind_out hF
      obtain ⟨x51, h52, e53, hF⟩ := bnd_out hF
      refine ab_callVd X S e55 (c_X9_put l D cA sz e53) rfl (by decide) mi_X9_put lm_X9_281 li_yX9_put ls_yX9_put (As := [.int x47, .int p1, .double x48]) (rest := []) rfl ⟨by decide, by decide⟩ ⟨(by decide), (by decide)⟩ hl.1 rfl (by simp [ab_cat, ab_cI, ab_cJ, ab_cD, ab_cF]) dX9_cubic_152 (fun H1 locs1 S => ?_)
      exact ab_dret X S hr hF dX9_cubic_155
    · have hF := ab_neg (fun q => q c2) hF
      refine ab_aload_n X dX9_cubic_28 rfl (lv_at hl 1 rfl) ?_
      refine ab_getR X S hF fi_9_41 lf_X9_131 dX9_cubic_29 (fun x56 hF => ?_)
      refine lv_iload X.1 X.2.1 dX9_cubic_32 (lv_at hl 0 rfl) ?_
      refine ab_aldD X S hF dX9_cubic_34 (fun x57 hF => ?_)
      exact ab_dret X S hr hF dX9_cubic_35
  · have hF := ab_neg (fun q => q c1) hF
    refine ab_aload_n X dX9_cubic_14 rfl (lv_at hl 1 rfl) ?_
    refine ab_getR X S hF fi_9_40 lf_X9_128 dX9_cubic_15 (fun x58 hF => ?_)
    refine lv_iload X.1 X.2.1 dX9_cubic_18 (lv_at hl 0 rfl) ?_
    refine ab_aldD X S hF dX9_cubic_20 (fun x59 hF => ?_)
    exact ab_dret X S hr hF dX9_cubic_21
def f_X9_valueAt_11  : Nat → Option Nat → Int32 → Int32 → UInt64 → Int32 → Int32 → Hp → Option (UInt64 × Hp)
  | 0, _, _, _, _, _, _, _ => none
  | n + 1, v0, v1, v2, v3, v5, v6, h => (getR h v0 9 0).bind fun x1 =>
    (aldI h x1 11 v5).bind fun x2 =>
    if x2 ≤ v6 then
      (getR h v0 9 38).bind fun x4 =>
      (aldD h x4 v1).bind fun x5 =>
      (getR h v0 9 39).bind fun x6 =>
      (aldD h x6 v1).bind fun x7 =>
      (fop (FP.dmul v3 x7)).bind fun x8 =>
      (fop (FP.dadd x5 x8)).bind fun x9 =>
      (getR h v0 9 56).bind fun x10 =>
      (ab_ck h v0 (9, 0)).bind fun a14 =>
      bnd (f_X9_all a14 v5 x9 x10 h) fun _ h12 =>
      (getR h12 v0 9 46).bind fun x16 =>
      (aldD h12 x16 v2).bind fun x17 =>
      some (x17, h12)
    else
      (getR h v0 9 56).bind fun x18 =>
      (ab_ck h v0 (9, 0)).bind fun a22 =>
      bnd (f_X9_cubic a22 v1 v6 v3 h) fun x19 h20 =>
      (astD h20 x18 v6 x19).bind fun h24 =>
      f_X9_valueAt_11 n v0 v1 v2 v3 v5 (v6 + 1) h24
set_option maxHeartbeats 4000000 in
set_option maxRecDepth 100000 in
theorem w_X9_valueAt_11 {p : Program} {l : Launch} {e : Env} {s : State} {m : MethodId} {args : Array Value} {below : List Frame} {meth : Method} {c : Code} {D : va_G} {cA : Nat → ClassId} {sz : Nat} {rr : UInt64} {hh : Hp}  (X : ab_X p s m args meth c cX9_valueAt 7 RX9 D cA sz) (hr : meth.sig.returnType = (some .double))  (n : Nat) : ∀ (v0 : Option Nat) (v1 : Int32) (v2 : Int32) (v3 : UInt64) (v5 : Int32) (v6 : Int32) (h : Hp) (H : Heap) (locs : List Loc) (ls : Array Slot), ab_H D cA sz h s H locs → lv_has ls 7 [(0, va_rf v0), (1, .int v1), (2, .int v2), (3, .double v3), (5, .int v5), (6, .int v6)] → f_X9_valueAt_11 n v0 v1 v2 v3 v5 v6 h = some (rr, hh) → W p l e (ab_rm 5 0 0) s m args below meth c H locs 0 0 (MQ below (ab_Q D cA sz (some (.double rr)) hh) args s 0 0 (fun q => sz ≤ q)) (F0 m 11 ls []) := by
  induction n with
  | zero => intro v0 v1 v2 v3 v5 v6 h H locs ls S hl hF; cases hF
  | succ n ih =>
    intro v0 v1 v2 v3 v5 v6 h H locs ls S hl hF
    rw [f_X9_valueAt_11] at hF
    refine lv_iload X.1 X.2.1 dX9_valueAt_11 (lv_at hl 5 rfl) ?_
    refine ab_aload_n X dX9_valueAt_13 rfl (lv_at hl 0 rfl) ?_
    refine ab_getR X S hF fi_9_0 lf_X9_9 dX9_valueAt_14 (fun x1 hF => ?_)
    refine lv_iload X.1 X.2.1 dX9_valueAt_17 (lv_at hl 4 rfl) ?_
    refine ab_aldI X S hF dX9_valueAt_19 (fun x2 hF => ?_)
    refine lv_icmp_ge (tgt := 44) X.1 X.2.1 dX9_valueAt_20 (by decide) (fun c3 => ?_) (fun c3 => ?_)
    · have hF := ab_pos c3 hF
      refine ab_aload_n X dX9_valueAt_44 rfl (lv_at hl 0 rfl) ?_
      refine lv_iload X.1 X.2.1 dX9_valueAt_45 (lv_at hl 4 rfl) ?_
      refine ab_aload_n X dX9_valueAt_47 rfl (lv_at hl 0 rfl) ?_
      refine ab_getR X S hF fi_9_38 lf_X9_122 dX9_valueAt_48 (fun x4 hF => ?_)
      refine lv_iload_n X.1 X.2.1 dX9_valueAt_51 rfl (lv_at hl 1 rfl) ?_
      refine ab_aldD X S hF dX9_valueAt_52 (fun x5 hF => ?_)
      refine lv_dload_n X.1 X.2.1 dX9_valueAt_53 rfl (lv_at hl 3 rfl) ?_
      refine ab_aload_n X dX9_valueAt_54 rfl (lv_at hl 0 rfl) ?_
      refine ab_getR X S hF fi_9_39 lf_X9_125 dX9_valueAt_55 (fun x6 hF => ?_)
      refine lv_iload_n X.1 X.2.1 dX9_valueAt_58 rfl (lv_at hl 1 rfl) ?_
      refine ab_aldD X S hF dX9_valueAt_59 (fun x7 hF => ?_)
      obtain ⟨x8, ev, ne, hF⟩ := ab_fopx hF
      refine lv_dmul X.1 X.2.1 dX9_valueAt_60 ne ?_
      rw [ev]
      obtain ⟨x9, ev, ne, hF⟩ := ab_fopx hF
      refine lv_dadd X.1 X.2.1 dX9_valueAt_61 ne ?_
      rw [ev]
      refine ab_aload_n X dX9_valueAt_62 rfl (lv_at hl 0 rfl) ?_
      refine ab_getR X S hF fi_9_56 lf_X9_173 dX9_valueAt_63 (fun x10 hF => ?_)
      obtain ⟨a14, e15, hF⟩ := bind_out hF
      obtain ⟨x11, h12, e13, hF⟩ := bnd_out hF
      refine ab_callVv X S e15 (c_X9_all l D cA sz e13) rfl (by decide) mi_X9_all lm_X9_242 li_yX9_all ls_yX9_all (As := [.int v5, .double x9, va_rf x10]) (rest := []) rfl ⟨by decide, by decide⟩ ⟨(by decide), (by decide)⟩ hl.1 rfl (by simp [ab_cat, ab_cI, ab_cJ, ab_cD, ab_cF]) dX9_valueAt_66 (fun H1 locs1 S => ?_)
      refine ab_aload_n X dX9_valueAt_69 rfl (lv_at hl 0 rfl) ?_
      refine ab_getR X S hF fi_9_46 lf_X9_143 dX9_valueAt_70 (fun x16 hF => ?_)
      refine lv_iload_n X.1 X.2.1 dX9_valueAt_73 rfl (lv_at hl 2 rfl) ?_
      refine ab_aldD X S hF dX9_valueAt_74 (fun x17 hF => ?_)
      exact ab_dret X S hr hF dX9_valueAt_75
    · have hF := ab_neg c3 hF
      refine ab_aload_n X dX9_valueAt_23 rfl (lv_at hl 0 rfl) ?_
      refine ab_getR X S hF fi_9_56 lf_X9_173 dX9_valueAt_24 (fun x18 hF => ?_)
      refine lv_iload X.1 X.2.1 dX9_valueAt_27 (lv_at hl 5 rfl) ?_
      refine ab_aload_n X dX9_valueAt_29 rfl (lv_at hl 0 rfl) ?_
      refine lv_iload_n X.1 X.2.1 dX9_valueAt_30 rfl (lv_at hl 1 rfl) ?_
      refine lv_iload X.1 X.2.1 dX9_valueAt_31 (lv_at hl 5 rfl) ?_
      refine lv_dload_n X.1 X.2.1 dX9_valueAt_33 rfl (lv_at hl 3 rfl) ?_
      obtain ⟨a22, e23, hF⟩ := bind_out hF
      obtain ⟨x19, h20, e21, hF⟩ := bnd_out hF
      refine ab_callVd X S e23 (c_X9_cubic l D cA sz e21) rfl (by decide) mi_X9_cubic lm_X9_330 li_yX9_cubic ls_yX9_cubic (As := [.int v1, .int v6, .double v3]) (rest := [.int v6, va_rf x18]) rfl ⟨by decide, by decide⟩ ⟨(by decide), (by decide)⟩ hl.1 rfl (by simp [ab_cat, ab_cI, ab_cJ, ab_cD, ab_cF]) dX9_valueAt_34 (fun H1 locs1 S => ?_)
      refine ab_astD X S hF dX9_valueAt_37 (fun h24 H1 locs1 hF S => ?_)
      refine lv_iinc (v := v6 + 1) (lv' := [(6, .int (v6 + 1)), (0, va_rf v0), (1, .int v1), (2, .int v2), (3, .double v3), (5, .int v5)]) X.1 X.2.1 dX9_valueAt_38 hl (k := 5) rfl (by rfl) (by decide) (by simp [ab_cat, ab_cI, ab_cJ, ab_cD, ab_cF]) (fun ls hl => ?_)
      refine lv_goto (tgt := 11) X.1 X.2.1 dX9_valueAt_41 (by decide) ?_
      exact ih _ _ _ _ _ _ _ _ _ _ S (lv_sub hl [1, 2, 3, 4, 5, 0] rfl) hF
def f_X9_valueAt (this : Nat) (p0 : Int32) (p1 : Int32) (p2 : UInt64) (h : Hp) : Option (UInt64 × Hp) :=
  (getR h (some this) 9 15).bind fun x1 =>
  (aldI h x1 11 p0).bind fun x2 =>
  f_X9_valueAt_11 fuelN (some this) p0 p1 p2 x2 0 h
theorem mi_X9_valueAt : ab_MI yX9_valueAt cX9_valueAt 7 (some .double) 3 := ⟨lc_yX9_valueAt, lz_RX9, by decide, by decide, by decide +kernel⟩
set_option maxHeartbeats 4000000 in
set_option maxRecDepth 100000 in
theorem c_X9_valueAt (l : Launch) (D : va_G) (cA : Nat → ClassId) (sz : Nat) {this : Nat} {p0 : Int32} {p1 : Int32} {p2 : UInt64} {h hh : Hp} {rr : UInt64} (hF : f_X9_valueAt this p0 p1 p2 h = some (rr, hh)) : ab_C l D cA sz yX9_valueAt cX9_valueAt 7 (some .double) 5 0 0 [.ref this, .int p0, .int p1, .double p2] h (some (.double rr)) hh := by
  refine Met.ofW (cc := cX9_valueAt) (maxL := 7) (ret := (some .double)) (by decide) rfl ?_
  intro p e s m args below meth c s₁ B hml hv
  obtain ⟨rfl, hT, hR⟩ := hv
  have X : ab_X p s m _ meth c cX9_valueAt 7 RX9 D cA sz := (ab_enter B hml hT hR).1
  have S := (ab_enter B hml hT hR).2
  have hr := B.returns
  obtain ⟨ls, hls, hl⟩ := ab_entry m [.ref this, .int p0, .int p1, .double p2] 7 (lv := [(0, .ref this), (1, .int p0), (2, .int p1), (3, .double p2)]) (by simp [lg_sl, ab_cat, ab_cI, ab_cJ, ab_cD, ab_cF, ab_cA]) (by simp [lv_args, ab_cat, ab_cI, ab_cJ, ab_cD, ab_cF, ab_cA])
  rw [hls]
  have hl : lv_has ls 7 [(0, va_rf (some this)), (1, .int p0), (2, .int p1), (3, .double p2)] := hl
  unfold f_X9_valueAt at hF
  show W p l e (ab_rm 5 0 0) s m _ below meth c s.heap [] 0 0 _ _
  refine ab_aload_n X dX9_valueAt_0 rfl (lv_at hl 0 rfl) ?_
  refine ab_getR X S hF fi_9_15 lf_X9_52 dX9_valueAt_1 (fun x1 hF => ?_)
  refine lv_iload_n X.1 X.2.1 dX9_valueAt_4 rfl (lv_at hl 1 rfl) ?_
  refine ab_aldI X S hF dX9_valueAt_5 (fun x2 hF => ?_)
  refine lv_istore (lv' := [(5, .int x2), (0, va_rf (some this)), (1, .int p0), (2, .int p1), (3, .double p2)]) X.1 X.2.1 dX9_valueAt_6 hl (by decide) (by simp [ab_cat, ab_cI, ab_cJ, ab_cD, ab_cF]) (fun ls hl => ?_)
  refine lv_iconst (v := 0) X.1 X.2.1 dX9_valueAt_8 (by decide) ?_
  refine lv_istore (lv' := [(6, .int 0), (5, .int x2), (0, va_rf (some this)), (1, .int p0), (2, .int p1), (3, .double p2)]) X.1 X.2.1 dX9_valueAt_9 hl (by decide) (by simp [ab_cat, ab_cI, ab_cJ, ab_cD, ab_cF]) (fun ls hl => ?_)
  exact w_X9_valueAt_11 X hr  fuelN _ _ _ _ _ _ _ _ _ _ S (lv_sub hl [2, 3, 4, 5, 1, 0] rfl) hF
def f_X9_looksAt_206 (k_137 : Option Nat → Int32 → Int32 → Int32 → Int32 → UInt64 → Int32 → Hp → Option (Unit × Hp)) (v0 : Option Nat) (v1 : Int32) (v2 : Int32) (v3 : Int32) (v9 : Int32) (v11 : UInt64) (v13 : Int32) (h : Hp) : Option (Unit × Hp) :=
  k_137 v0 v1 v2 v3 v9 v11 (v13 + 1) h
set_option maxHeartbeats 4000000 in
set_option maxRecDepth 100000 in
theorem w_X9_looksAt_206 {p : Program} {l : Launch} {e : Env} {s : State} {m : MethodId} {args : Array Value} {below : List Frame} {meth : Method} {c : Code} {D : va_G} {cA : Nat → ClassId} {sz : Nat}  {hh : Hp} {k_137 : Option Nat → Int32 → Int32 → Int32 → Int32 → UInt64 → Int32 → Hp → Option (Unit × Hp)} (X : ab_X p s m args meth c cX9_looksAt 18 RX9 D cA sz) (hr : meth.sig.returnType = none) (hk_137 : ∀ (v0 : Option Nat) (v1 : Int32) (v2 : Int32) (v3 : Int32) (v9 : Int32) (v11 : UInt64) (v13 : Int32) (h : Hp) (H : Heap) (locs : List Loc) (ls : Array Slot), ab_H D cA sz h s H locs → lv_has ls 18 [(0, va_rf v0), (1, .int v1), (2, .int v2), (3, .int v3), (9, .int v9), (11, .double v11), (13, .int v13)] → k_137 v0 v1 v2 v3 v9 v11 v13 h = some ((), hh) → W p l e (ab_rm 6 0 0) s m args below meth c H locs 0 0 (MQ below (ab_Q D cA sz none hh) args s 0 0 (fun q => sz ≤ q)) (F0 m 137 ls [])) {H : Heap} {locs : List Loc} {ls : Array Slot} {v0 : Option Nat} {v1 : Int32} {v2 : Int32} {v3 : Int32} {v9 : Int32} {v11 : UInt64} {v13 : Int32} {h : Hp} (S : ab_H D cA sz h s H locs) (hl : lv_has ls 18 [(0, va_rf v0), (1, .int v1), (2, .int v2), (3, .int v3), (9, .int v9), (11, .double v11), (13, .int v13)]) (hF : f_X9_looksAt_206 k_137 v0 v1 v2 v3 v9 v11 v13 h = some ((), hh)) : W p l e (ab_rm 6 0 0) s m args below meth c H locs 0 0 (MQ below (ab_Q D cA sz none hh) args s 0 0 (fun q => sz ≤ q)) (F0 m 206 ls []) := by
  unfold f_X9_looksAt_206 at hF
  refine lv_iinc (v := v13 + 1) (lv' := [(13, .int (v13 + 1)), (0, va_rf v0), (1, .int v1), (2, .int v2), (3, .int v3), (9, .int v9), (11, .double v11)]) X.1 X.2.1 dX9_looksAt_206 hl (k := 6) rfl (by rfl) (by decide) (by simp [ab_cat, ab_cI, ab_cJ, ab_cD, ab_cF]) (fun ls hl => ?_)
  refine lv_goto (tgt := 137) X.1 X.2.1 dX9_looksAt_209 (by decide) ?_
  exact hk_137 _ _ _ _ _ _ _ _ _ _ _ S (lv_sub hl [1, 2, 3, 4, 5, 6, 0] rfl) hF
def f_X9_looksAt_202 (k_137 : Option Nat → Int32 → Int32 → Int32 → Int32 → UInt64 → Int32 → Hp → Option (Unit × Hp)) (v0 : Option Nat) (v1 : Int32) (v2 : Int32) (v3 : Int32) (v9 : Int32) (v13 : Int32) (v14 : UInt64) (h : Hp) : Option (Unit × Hp) :=
  f_X9_looksAt_206 k_137 v0 v1 v2 v3 v9 v14 v13 h
set_option maxHeartbeats 4000000 in
set_option maxRecDepth 100000 in
theorem w_X9_looksAt_202 {p : Program} {l : Launch} {e : Env} {s : State} {m : MethodId} {args : Array Value} {below : List Frame} {meth : Method} {c : Code} {D : va_G} {cA : Nat → ClassId} {sz : Nat}  {hh : Hp} {k_137 : Option Nat → Int32 → Int32 → Int32 → Int32 → UInt64 → Int32 → Hp → Option (Unit × Hp)} (X : ab_X p s m args meth c cX9_looksAt 18 RX9 D cA sz) (hr : meth.sig.returnType = none) (hk_137 : ∀ (v0 : Option Nat) (v1 : Int32) (v2 : Int32) (v3 : Int32) (v9 : Int32) (v11 : UInt64) (v13 : Int32) (h : Hp) (H : Heap) (locs : List Loc) (ls : Array Slot), ab_H D cA sz h s H locs → lv_has ls 18 [(0, va_rf v0), (1, .int v1), (2, .int v2), (3, .int v3), (9, .int v9), (11, .double v11), (13, .int v13)] → k_137 v0 v1 v2 v3 v9 v11 v13 h = some ((), hh) → W p l e (ab_rm 6 0 0) s m args below meth c H locs 0 0 (MQ below (ab_Q D cA sz none hh) args s 0 0 (fun q => sz ≤ q)) (F0 m 137 ls [])) {H : Heap} {locs : List Loc} {ls : Array Slot} {v0 : Option Nat} {v1 : Int32} {v2 : Int32} {v3 : Int32} {v9 : Int32} {v13 : Int32} {v14 : UInt64} {h : Hp} (S : ab_H D cA sz h s H locs) (hl : lv_has ls 18 [(0, va_rf v0), (1, .int v1), (2, .int v2), (3, .int v3), (9, .int v9), (13, .int v13), (14, .double v14)]) (hF : f_X9_looksAt_202 k_137 v0 v1 v2 v3 v9 v13 v14 h = some ((), hh)) : W p l e (ab_rm 6 0 0) s m args below meth c H locs 0 0 (MQ below (ab_Q D cA sz none hh) args s 0 0 (fun q => sz ≤ q)) (F0 m 202 ls []) := by
  unfold f_X9_looksAt_202 at hF
  refine lv_dload X.1 X.2.1 dX9_looksAt_202 (lv_at hl 6 rfl) ?_
  refine lv_dstore (lv' := [(11, .double v14), (0, va_rf v0), (1, .int v1), (2, .int v2), (3, .int v3), (9, .int v9), (13, .int v13), (14, .double v14)]) X.1 X.2.1 dX9_looksAt_204 hl (by decide) (by simp [ab_cat, ab_cI, ab_cJ, ab_cD, ab_cF]) (fun ls hl => ?_)
  exact w_X9_looksAt_206 X hr hk_137 S (lv_sub hl [1, 2, 3, 4, 5, 0, 6] rfl) hF
def f_X9_looksAt_191 (k_137 : Option Nat → Int32 → Int32 → Int32 → Int32 → UInt64 → Int32 → Hp → Option (Unit × Hp)) (v0 : Option Nat) (v1 : Int32) (v2 : Int32) (v3 : Int32) (v9 : Int32) (v11 : UInt64) (v13 : Int32) (v14 : UInt64) (h : Hp) : Option (Unit × Hp) :=
  (getR h v0 9 58).bind fun x1 =>
  (astD h x1 v2 v14).bind fun h2 =>
  f_X9_looksAt_206 k_137 v0 v1 v2 v3 v9 v11 v13 h2
set_option maxHeartbeats 4000000 in
set_option maxRecDepth 100000 in
theorem w_X9_looksAt_191 {p : Program} {l : Launch} {e : Env} {s : State} {m : MethodId} {args : Array Value} {below : List Frame} {meth : Method} {c : Code} {D : va_G} {cA : Nat → ClassId} {sz : Nat}  {hh : Hp} {k_137 : Option Nat → Int32 → Int32 → Int32 → Int32 → UInt64 → Int32 → Hp → Option (Unit × Hp)} (X : ab_X p s m args meth c cX9_looksAt 18 RX9 D cA sz) (hr : meth.sig.returnType = none) (hk_137 : ∀ (v0 : Option Nat) (v1 : Int32) (v2 : Int32) (v3 : Int32) (v9 : Int32) (v11 : UInt64) (v13 : Int32) (h : Hp) (H : Heap) (locs : List Loc) (ls : Array Slot), ab_H D cA sz h s H locs → lv_has ls 18 [(0, va_rf v0), (1, .int v1), (2, .int v2), (3, .int v3), (9, .int v9), (11, .double v11), (13, .int v13)] → k_137 v0 v1 v2 v3 v9 v11 v13 h = some ((), hh) → W p l e (ab_rm 6 0 0) s m args below meth c H locs 0 0 (MQ below (ab_Q D cA sz none hh) args s 0 0 (fun q => sz ≤ q)) (F0 m 137 ls [])) {H : Heap} {locs : List Loc} {ls : Array Slot} {v0 : Option Nat} {v1 : Int32} {v2 : Int32} {v3 : Int32} {v9 : Int32} {v11 : UInt64} {v13 : Int32} {v14 : UInt64} {h : Hp} (S : ab_H D cA sz h s H locs) (hl : lv_has ls 18 [(0, va_rf v0), (1, .int v1), (2, .int v2), (3, .int v3), (9, .int v9), (11, .double v11), (13, .int v13), (14, .double v14)]) (hF : f_X9_looksAt_191 k_137 v0 v1 v2 v3 v9 v11 v13 v14 h = some ((), hh)) : W p l e (ab_rm 6 0 0) s m args below meth c H locs 0 0 (MQ below (ab_Q D cA sz none hh) args s 0 0 (fun q => sz ≤ q)) (F0 m 191 ls []) := by
  unfold f_X9_looksAt_191 at hF
  refine ab_aload_n X dX9_looksAt_191 rfl (lv_at hl 0 rfl) ?_
  refine ab_getR X S hF fi_9_58 lf_X9_179 dX9_looksAt_192 (fun x1 hF => ?_)
  refine lv_iload_n X.1 X.2.1 dX9_looksAt_195 rfl (lv_at hl 2 rfl) ?_
  refine lv_dload X.1 X.2.1 dX9_looksAt_196 (lv_at hl 7 rfl) ?_
  refine ab_astD X S hF dX9_looksAt_198 (fun h2 H1 locs1 hF S => ?_)
  refine lv_goto (tgt := 206) X.1 X.2.1 dX9_looksAt_199 (by decide) ?_
  exact w_X9_looksAt_206 X hr hk_137 S (lv_sub hl [0, 1, 2, 3, 4, 5, 6] rfl) hF
def f_X9_looksAt_137  : Nat → Option Nat → Int32 → Int32 → Int32 → Int32 → UInt64 → Int32 → Hp → Option (Unit × Hp)
  | 0, _, _, _, _, _, _, _, _ => none
  | n + 1, v0, v1, v2, v3, v9, v11, v13, h => if 30 ≤ v13 then
      some ((), h)
    else
      (getR h v0 9 58).bind fun x2 =>
      (aldD h x2 v2).bind fun x3 =>
      (fop (FP.dadd v11 x3)).bind fun x4 =>
      (fop (FP.ddiv x4 4611686018427387904)).bind fun x5 =>
      (ab_ck h v0 (9, 0)).bind fun a9 =>
      bnd (f_X9_valueAt a9 v1 v3 x5 h) fun x6 h7 =>
      if v9 = 0 then
        if 0 < (Op.cmpValue (FP.dcmp x6 FP.dconst0) CmpOp.g) then
          f_X9_looksAt_202 (f_X9_looksAt_137 n) v0 v1 v2 v3 v9 v13 x5 h7
        else
          f_X9_looksAt_191 (f_X9_looksAt_137 n) v0 v1 v2 v3 v9 v11 v13 x5 h7
      else
        if (Op.cmpValue (FP.dcmp x6 FP.dconst0) CmpOp.l) < 0 then
          f_X9_looksAt_202 (f_X9_looksAt_137 n) v0 v1 v2 v3 v9 v13 x5 h7
        else
          f_X9_looksAt_191 (f_X9_looksAt_137 n) v0 v1 v2 v3 v9 v11 v13 x5 h7
set_option maxHeartbeats 4000000 in
set_option maxRecDepth 100000 in
theorem w_X9_looksAt_137 {p : Program} {l : Launch} {e : Env} {s : State} {m : MethodId} {args : Array Value} {below : List Frame} {meth : Method} {c : Code} {D : va_G} {cA : Nat → ClassId} {sz : Nat}  {hh : Hp}  (X : ab_X p s m args meth c cX9_looksAt 18 RX9 D cA sz) (hr : meth.sig.returnType = none)  (n : Nat) : ∀ (v0 : Option Nat) (v1 : Int32) (v2 : Int32) (v3 : Int32) (v9 : Int32) (v11 : UInt64) (v13 : Int32) (h : Hp) (H : Heap) (locs : List Loc) (ls : Array Slot), ab_H D cA sz h s H locs → lv_has ls 18 [(0, va_rf v0), (1, .int v1), (2, .int v2), (3, .int v3), (9, .int v9), (11, .double v11), (13, .int v13)] → f_X9_looksAt_137 n v0 v1 v2 v3 v9 v11 v13 h = some ((), hh) → W p l e (ab_rm 6 0 0) s m args below meth c H locs 0 0 (MQ below (ab_Q D cA sz none hh) args s 0 0 (fun q => sz ≤ q)) (F0 m 137 ls []) := by
  induction n with
  | zero => intro v0 v1 v2 v3 v9 v11 v13 h H locs ls S hl hF; cases hF
  | succ n ih =>
    intro v0 v1 v2 v3 v9 v11 v13 h H locs ls S hl hF
    rw [f_X9_looksAt_137] at hF
    refine lv_iload X.1 X.2.1 dX9_looksAt_137 (lv_at hl 6 rfl) ?_
    refine lv_bipush (v := 30) X.1 X.2.1 dX9_looksAt_139 (by decide) ?_
    refine lv_icmp_ge (tgt := 212) X.1 X.2.1 dX9_looksAt_141 (by decide) (fun c1 => ?_) (fun c1 => ?_)
    · have hF := ab_pos c1 hF
      exact ab_vret X S hr hF dX9_looksAt_212
    · have hF := ab_neg c1 hF
      refine lv_dload X.1 X.2.1 dX9_looksAt_144 (lv_at hl 5 rfl) ?_
      refine ab_aload_n X dX9_looksAt_146 rfl (lv_at hl 0 rfl) ?_
      refine ab_getR X S hF fi_9_58 lf_X9_179 dX9_looksAt_147 (fun x2 hF => ?_)
      refine lv_iload_n X.1 X.2.1 dX9_looksAt_150 rfl (lv_at hl 2 rfl) ?_
      refine ab_aldD X S hF dX9_looksAt_151 (fun x3 hF => ?_)
      obtain ⟨x4, ev, ne, hF⟩ := ab_fopx hF
      refine lv_dadd X.1 X.2.1 dX9_looksAt_152 ne ?_
      rw [ev]
      refine lv_ldc2d (v := 4611686018427387904) X.1 X.2.1 X.2.2.2.1 (X.2.2.2.2.1 _ ld_X9_285) dX9_looksAt_153 ?_
      obtain ⟨x5, ev, ne, hF⟩ := ab_fopx hF
      refine lv_ddiv X.1 X.2.1 dX9_looksAt_156 ne ?_
      rw [ev]
      refine lv_dstore (lv' := [(14, .double x5), (0, va_rf v0), (1, .int v1), (2, .int v2), (3, .int v3), (9, .int v9), (11, .double v11), (13, .int v13)]) X.1 X.2.1 dX9_looksAt_157 hl (by decide) (by simp [ab_cat, ab_cI, ab_cJ, ab_cD, ab_cF]) (fun ls hl => ?_)
      refine ab_aload_n X dX9_looksAt_159 rfl (lv_at hl 1 rfl) ?_
      refine lv_iload_n X.1 X.2.1 dX9_looksAt_160 rfl (lv_at hl 2 rfl) ?_
      refine lv_iload_n X.1 X.2.1 dX9_looksAt_161 rfl (lv_at hl 4 rfl) ?_
      refine lv_dload X.1 X.2.1 dX9_looksAt_162 (lv_at hl 0 rfl) ?_
      obtain ⟨a9, e10, hF⟩ := bind_out hF
      obtain ⟨x6, h7, e8, hF⟩ := bnd_out hF
      refine ab_callVd X S e10 (c_X9_valueAt l D cA sz e8) rfl (by decide) mi_X9_valueAt lm_X9_333 li_yX9_valueAt ls_yX9_valueAt (As := [.int v1, .int v3, .double x5]) (rest := []) rfl ⟨by decide, by decide⟩ ⟨(by decide), (by decide)⟩ hl.1 rfl (by simp [ab_cat, ab_cI, ab_cJ, ab_cD, ab_cF]) dX9_looksAt_164 (fun H1 locs1 S => ?_)
      refine lv_dstore (lv' := [(16, .double x6), (14, .double x5), (0, va_rf v0), (1, .int v1), (2, .int v2), (3, .int v3), (9, .int v9), (11, .double v11), (13, .int v13)]) X.1 X.2.1 dX9_looksAt_167 hl (by decide) (by simp [ab_cat, ab_cI, ab_cJ, ab_cD, ab_cF]) (fun ls hl => ?_)
      refine lv_iload X.1 X.2.1 dX9_looksAt_169 (lv_at hl 6 rfl) ?_
      refine lv_if_eq (tgt := 184) X.1 X.2.1 dX9_looksAt_171 (by decide) (fun c11 => ?_) (fun c11 => ?_)
      · have hF := ab_pos c11 hF
        refine lv_dload X.1 X.2.1 dX9_looksAt_184 (lv_at hl 0 rfl) ?_
        refine lv_dconst0 X.1 X.2.1 dX9_looksAt_186 ?_
        refine lv_dcmp X.1 X.2.1 dX9_looksAt_187 ?_
        refine lv_if_gt (tgt := 202) X.1 X.2.1 dX9_looksAt_188 (by decide) (fun c12 => ?_) (fun c12 => ?_)
        · have hF := ab_pos c12 hF
          exact w_X9_looksAt_202 X hr ih S (lv_sub hl [2, 3, 4, 5, 6, 8, 1] rfl) hF
        · have hF := ab_neg c12 hF
          exact w_X9_looksAt_191 X hr ih S (lv_sub hl [2, 3, 4, 5, 6, 7, 8, 1] rfl) hF
      · have hF := ab_neg c11 hF
        refine lv_dload X.1 X.2.1 dX9_looksAt_174 (lv_at hl 0 rfl) ?_
        refine lv_dconst0 X.1 X.2.1 dX9_looksAt_176 ?_
        refine lv_dcmp X.1 X.2.1 dX9_looksAt_177 ?_
        refine lv_if_lt (tgt := 202) X.1 X.2.1 dX9_looksAt_178 (by decide) (fun c13 => ?_) (fun c13 => ?_)
        · have hF := ab_pos c13 hF
          exact w_X9_looksAt_202 X hr ih S (lv_sub hl [2, 3, 4, 5, 6, 8, 1] rfl) hF
        · have hF := ab_neg c13 hF
          refine lv_goto (tgt := 191) X.1 X.2.1 dX9_looksAt_181 (by decide) ?_
          exact w_X9_looksAt_191 X hr ih S (lv_sub hl [2, 3, 4, 5, 6, 7, 8, 1] rfl) hF
def f_X9_looksAt_113  (v0 : Option Nat) (v1 : Int32) (v2 : Int32) (v3 : Int32) (v9 : Int32) (u0 : Int32) (u1 : Int32) (u2 : Option Nat) (h : Hp) : Option (Unit × Hp) :=
  (astZ h u2 u1 u0).bind fun h1 =>
  (getR h1 v0 9 58).bind fun x2 =>
  (astD h1 x2 v2 FP.dconst1).bind fun h3 =>
  (getR h3 v0 9 59).bind fun x4 =>
  (aldI h3 x4 12 v2).bind fun x5 =>
  if ¬ x5 = 0 then
    f_X9_looksAt_137 fuelN v0 v1 v2 v3 v9 FP.dconst0 0 h3
  else
    some ((), h3)
set_option maxHeartbeats 4000000 in
set_option maxRecDepth 100000 in
theorem w_X9_looksAt_113 {p : Program} {l : Launch} {e : Env} {s : State} {m : MethodId} {args : Array Value} {below : List Frame} {meth : Method} {c : Code} {D : va_G} {cA : Nat → ClassId} {sz : Nat}  {hh : Hp}  (X : ab_X p s m args meth c cX9_looksAt 18 RX9 D cA sz) (hr : meth.sig.returnType = none)  {H : Heap} {locs : List Loc} {ls : Array Slot} {v0 : Option Nat} {v1 : Int32} {v2 : Int32} {v3 : Int32} {v9 : Int32} {u0 : Int32} {u1 : Int32} {u2 : Option Nat} {h : Hp} (S : ab_H D cA sz h s H locs) (hl : lv_has ls 18 [(0, va_rf v0), (1, .int v1), (2, .int v2), (3, .int v3), (9, .int v9)]) (hF : f_X9_looksAt_113 v0 v1 v2 v3 v9 u0 u1 u2 h = some ((), hh)) : W p l e (ab_rm 6 0 0) s m args below meth c H locs 0 0 (MQ below (ab_Q D cA sz none hh) args s 0 0 (fun q => sz ≤ q)) (F0 m 113 ls [.int u0, .int u1, va_rf u2]) := by
  unfold f_X9_looksAt_113 at hF
  refine ab_astZ X S hF dX9_looksAt_113 (fun h1 H1 locs1 hF S => ?_)
  refine ab_aload_n X dX9_looksAt_114 rfl (lv_at hl 0 rfl) ?_
  refine ab_getR X S hF fi_9_58 lf_X9_179 dX9_looksAt_115 (fun x2 hF => ?_)
  refine lv_iload_n X.1 X.2.1 dX9_looksAt_118 rfl (lv_at hl 2 rfl) ?_
  refine lv_dconst1 X.1 X.2.1 dX9_looksAt_119 ?_
  refine ab_astD X S hF dX9_looksAt_120 (fun h3 H1 locs1 hF S => ?_)
  refine ab_aload_n X dX9_looksAt_121 rfl (lv_at hl 0 rfl) ?_
  refine ab_getR X S hF fi_9_59 lf_X9_182 dX9_looksAt_122 (fun x4 hF => ?_)
  refine lv_iload_n X.1 X.2.1 dX9_looksAt_125 rfl (lv_at hl 2 rfl) ?_
  refine ab_aldZ X S hF dX9_looksAt_126 (fun x5 hF => ?_)
  refine lv_if_ne (tgt := 131) X.1 X.2.1 dX9_looksAt_127 (by decide) (fun c6 => ?_) (fun c6 => ?_)
  · have hF := ab_pos c6 hF
    refine lv_dconst0 X.1 X.2.1 dX9_looksAt_131 ?_
    refine lv_dstore (lv' := [(11, .double FP.dconst0), (0, va_rf v0), (1, .int v1), (2, .int v2), (3, .int v3), (9, .int v9)]) X.1 X.2.1 dX9_looksAt_132 hl (by decide) (by simp [ab_cat, ab_cI, ab_cJ, ab_cD, ab_cF]) (fun ls hl => ?_)
    refine lv_iconst (v := 0) X.1 X.2.1 dX9_looksAt_134 (by decide) ?_
    refine lv_istore (lv' := [(13, .int 0), (11, .double FP.dconst0), (0, va_rf v0), (1, .int v1), (2, .int v2), (3, .int v3), (9, .int v9)]) X.1 X.2.1 dX9_looksAt_135 hl (by decide) (by simp [ab_cat, ab_cI, ab_cJ, ab_cD, ab_cF]) (fun ls hl => ?_)
    exact w_X9_looksAt_137 X hr  fuelN _ _ _ _ _ _ _ _ _ _ _ S (lv_sub hl [2, 3, 4, 5, 6, 1, 0] rfl) hF
  · have hF := ab_neg (fun q => q c6) hF
    exact ab_vret X S hr hF dX9_looksAt_130
def f_X9_looksAt_108  (v0 : Option Nat) (v1 : Int32) (v2 : Int32) (v3 : Int32) (v9 : Int32) (u0 : Int32) (u1 : Option Nat) (h : Hp) : Option (Unit × Hp) :=
  f_X9_looksAt_113 v0 v1 v2 v3 v9 1 u0 u1 h
set_option maxHeartbeats 4000000 in
set_option maxRecDepth 100000 in
theorem w_X9_looksAt_108 {p : Program} {l : Launch} {e : Env} {s : State} {m : MethodId} {args : Array Value} {below : List Frame} {meth : Method} {c : Code} {D : va_G} {cA : Nat → ClassId} {sz : Nat}  {hh : Hp}  (X : ab_X p s m args meth c cX9_looksAt 18 RX9 D cA sz) (hr : meth.sig.returnType = none)  {H : Heap} {locs : List Loc} {ls : Array Slot} {v0 : Option Nat} {v1 : Int32} {v2 : Int32} {v3 : Int32} {v9 : Int32} {u0 : Int32} {u1 : Option Nat} {h : Hp} (S : ab_H D cA sz h s H locs) (hl : lv_has ls 18 [(0, va_rf v0), (1, .int v1), (2, .int v2), (3, .int v3), (9, .int v9)]) (hF : f_X9_looksAt_108 v0 v1 v2 v3 v9 u0 u1 h = some ((), hh)) : W p l e (ab_rm 6 0 0) s m args below meth c H locs 0 0 (MQ below (ab_Q D cA sz none hh) args s 0 0 (fun q => sz ≤ q)) (F0 m 108 ls [.int u0, va_rf u1]) := by
  unfold f_X9_looksAt_108 at hF
  refine lv_iconst (v := 1) X.1 X.2.1 dX9_looksAt_108 (by decide) ?_
  refine lv_goto (tgt := 113) X.1 X.2.1 dX9_looksAt_109 (by decide) ?_
  exact w_X9_looksAt_113 X hr  S (lv_sub hl [0, 1, 2, 3, 4] rfl) hF
def f_X9_looksAt_91  (v0 : Option Nat) (v1 : Int32) (v2 : Int32) (v3 : Int32) (v9 : Int32) (u0 : Int32) (h : Hp) : Option (Unit × Hp) :=
  (getR h v0 9 59).bind fun x1 =>
  if ¬ v9 = 0 then
    f_X9_looksAt_108 v0 v1 v2 v3 v9 v2 x1 h
  else
    if u0 = 0 then
      f_X9_looksAt_113 v0 v1 v2 v3 v9 0 v2 x1 h
    else
      f_X9_looksAt_108 v0 v1 v2 v3 v9 v2 x1 h
set_option maxHeartbeats 4000000 in
set_option maxRecDepth 100000 in
theorem w_X9_looksAt_91 {p : Program} {l : Launch} {e : Env} {s : State} {m : MethodId} {args : Array Value} {below : List Frame} {meth : Method} {c : Code} {D : va_G} {cA : Nat → ClassId} {sz : Nat}  {hh : Hp}  (X : ab_X p s m args meth c cX9_looksAt 18 RX9 D cA sz) (hr : meth.sig.returnType = none)  {H : Heap} {locs : List Loc} {ls : Array Slot} {v0 : Option Nat} {v1 : Int32} {v2 : Int32} {v3 : Int32} {v9 : Int32} {u0 : Int32} {h : Hp} (S : ab_H D cA sz h s H locs) (hl : lv_has ls 18 [(0, va_rf v0), (1, .int v1), (2, .int v2), (3, .int v3), (9, .int v9)]) (hF : f_X9_looksAt_91 v0 v1 v2 v3 v9 u0 h = some ((), hh)) : W p l e (ab_rm 6 0 0) s m args below meth c H locs 0 0 (MQ below (ab_Q D cA sz none hh) args s 0 0 (fun q => sz ≤ q)) (F0 m 91 ls [.int u0]) := by
  unfold f_X9_looksAt_91 at hF
  refine lv_istore (lv' := [(10, .int u0), (0, va_rf v0), (1, .int v1), (2, .int v2), (3, .int v3), (9, .int v9)]) X.1 X.2.1 dX9_looksAt_91 hl (by decide) (by simp [ab_cat, ab_cI, ab_cJ, ab_cD, ab_cF]) (fun ls hl => ?_)
  refine ab_aload_n X dX9_looksAt_93 rfl (lv_at hl 1 rfl) ?_
  refine ab_getR X S hF fi_9_59 lf_X9_182 dX9_looksAt_94 (fun x1 hF => ?_)
  refine lv_iload_n X.1 X.2.1 dX9_looksAt_97 rfl (lv_at hl 3 rfl) ?_
  refine lv_iload X.1 X.2.1 dX9_looksAt_98 (lv_at hl 5 rfl) ?_
  refine lv_if_ne (tgt := 108) X.1 X.2.1 dX9_looksAt_100 (by decide) (fun c2 => ?_) (fun c2 => ?_)
  · have hF := ab_pos c2 hF
    exact w_X9_looksAt_108 X hr  S (lv_sub hl [1, 2, 3, 4, 5] rfl) hF
  · have hF := ab_neg (fun q => q c2) hF
    refine lv_iload X.1 X.2.1 dX9_looksAt_103 (lv_at hl 0 rfl) ?_
    refine lv_if_eq (tgt := 112) X.1 X.2.1 dX9_looksAt_105 (by decide) (fun c3 => ?_) (fun c3 => ?_)
    · have hF := ab_pos c3 hF
      refine lv_iconst (v := 0) X.1 X.2.1 dX9_looksAt_112 (by decide) ?_
      exact w_X9_looksAt_113 X hr  S (lv_sub hl [1, 2, 3, 4, 5] rfl) hF
    · have hF := ab_neg c3 hF
      exact w_X9_looksAt_108 X hr  S (lv_sub hl [1, 2, 3, 4, 5] rfl) hF
def f_X9_looksAt_90  (v0 : Option Nat) (v1 : Int32) (v2 : Int32) (v3 : Int32) (v9 : Int32) (h : Hp) : Option (Unit × Hp) :=
  f_X9_looksAt_91 v0 v1 v2 v3 v9 0 h
set_option maxHeartbeats 4000000 in
set_option maxRecDepth 100000 in
theorem w_X9_looksAt_90 {p : Program} {l : Launch} {e : Env} {s : State} {m : MethodId} {args : Array Value} {below : List Frame} {meth : Method} {c : Code} {D : va_G} {cA : Nat → ClassId} {sz : Nat}  {hh : Hp}  (X : ab_X p s m args meth c cX9_looksAt 18 RX9 D cA sz) (hr : meth.sig.returnType = none)  {H : Heap} {locs : List Loc} {ls : Array Slot} {v0 : Option Nat} {v1 : Int32} {v2 : Int32} {v3 : Int32} {v9 : Int32} {h : Hp} (S : ab_H D cA sz h s H locs) (hl : lv_has ls 18 [(0, va_rf v0), (1, .int v1), (2, .int v2), (3, .int v3), (9, .int v9)]) (hF : f_X9_looksAt_90 v0 v1 v2 v3 v9 h = some ((), hh)) : W p l e (ab_rm 6 0 0) s m args below meth c H locs 0 0 (MQ below (ab_Q D cA sz none hh) args s 0 0 (fun q => sz ≤ q)) (F0 m 90 ls []) := by
  unfold f_X9_looksAt_90 at hF
  refine lv_iconst (v := 0) X.1 X.2.1 dX9_looksAt_90 (by decide) ?_
  exact w_X9_looksAt_91 X hr  S (lv_sub hl [0, 1, 2, 3, 4] rfl) hF
def f_X9_looksAt_65  (v0 : Option Nat) (v1 : Int32) (v2 : Int32) (v3 : Int32) (v4 : Int32) (v5 : UInt64) (v7 : UInt64) (u0 : Int32) (h : Hp) : Option (Unit × Hp) :=
  if (Op.cmpValue (FP.dcmp v5 FP.dconst0) CmpOp.l) ≤ 0 then
    f_X9_looksAt_90 v0 v1 v2 v3 u0 h
  else
    if 0 < (Op.cmpValue (FP.dcmp v7 FP.dconst0) CmpOp.g) then
      f_X9_looksAt_90 v0 v1 v2 v3 u0 h
    else
      if 0 < v4 then
        f_X9_looksAt_90 v0 v1 v2 v3 u0 h
      else
        f_X9_looksAt_91 v0 v1 v2 v3 u0 1 h
set_option maxHeartbeats 4000000 in
set_option maxRecDepth 100000 in
theorem w_X9_looksAt_65 {p : Program} {l : Launch} {e : Env} {s : State} {m : MethodId} {args : Array Value} {below : List Frame} {meth : Method} {c : Code} {D : va_G} {cA : Nat → ClassId} {sz : Nat}  {hh : Hp}  (X : ab_X p s m args meth c cX9_looksAt 18 RX9 D cA sz) (hr : meth.sig.returnType = none)  {H : Heap} {locs : List Loc} {ls : Array Slot} {v0 : Option Nat} {v1 : Int32} {v2 : Int32} {v3 : Int32} {v4 : Int32} {v5 : UInt64} {v7 : UInt64} {u0 : Int32} {h : Hp} (S : ab_H D cA sz h s H locs) (hl : lv_has ls 18 [(0, va_rf v0), (1, .int v1), (2, .int v2), (3, .int v3), (4, .int v4), (5, .double v5), (7, .double v7)]) (hF : f_X9_looksAt_65 v0 v1 v2 v3 v4 v5 v7 u0 h = some ((), hh)) : W p l e (ab_rm 6 0 0) s m args below meth c H locs 0 0 (MQ below (ab_Q D cA sz none hh) args s 0 0 (fun q => sz ≤ q)) (F0 m 65 ls [.int u0]) := by
  unfold f_X9_looksAt_65 at hF
  refine lv_istore (lv' := [(9, .int u0), (0, va_rf v0), (1, .int v1), (2, .int v2), (3, .int v3), (4, .int v4), (5, .double v5), (7, .double v7)]) X.1 X.2.1 dX9_looksAt_65 hl (by decide) (by simp [ab_cat, ab_cI, ab_cJ, ab_cD, ab_cF]) (fun ls hl => ?_)
  refine lv_dload X.1 X.2.1 dX9_looksAt_67 (lv_at hl 6 rfl) ?_
  refine lv_dconst0 X.1 X.2.1 dX9_looksAt_69 ?_
  refine lv_dcmp X.1 X.2.1 dX9_looksAt_70 ?_
  refine lv_if_le (tgt := 90) X.1 X.2.1 dX9_looksAt_71 (by decide) (fun c1 => ?_) (fun c1 => ?_)
  · have hF := ab_pos c1 hF
    exact w_X9_looksAt_90 X hr  S (lv_sub hl [1, 2, 3, 4, 0] rfl) hF
  · have hF := ab_neg c1 hF
    refine lv_dload X.1 X.2.1 dX9_looksAt_74 (lv_at hl 7 rfl) ?_
    refine lv_dconst0 X.1 X.2.1 dX9_looksAt_76 ?_
    refine lv_dcmp X.1 X.2.1 dX9_looksAt_77 ?_
    refine lv_if_gt (tgt := 90) X.1 X.2.1 dX9_looksAt_78 (by decide) (fun c2 => ?_) (fun c2 => ?_)
    · have hF := ab_pos c2 hF
      exact w_X9_looksAt_90 X hr  S (lv_sub hl [1, 2, 3, 4, 0] rfl) hF
    · have hF := ab_neg c2 hF
      refine lv_iload X.1 X.2.1 dX9_looksAt_81 (lv_at hl 5 rfl) ?_
      refine lv_if_gt (tgt := 90) X.1 X.2.1 dX9_looksAt_83 (by decide) (fun c3 => ?_) (fun c3 => ?_)
      · have hF := ab_pos c3 hF
        exact w_X9_looksAt_90 X hr  S (lv_sub hl [1, 2, 3, 4, 0] rfl) hF
      · have hF := ab_neg c3 hF
        refine lv_iconst (v := 1) X.1 X.2.1 dX9_looksAt_86 (by decide) ?_
        refine lv_goto (tgt := 91) X.1 X.2.1 dX9_looksAt_87 (by decide) ?_
        exact w_X9_looksAt_91 X hr  S (lv_sub hl [1, 2, 3, 4, 0] rfl) hF
def f_X9_looksAt_64  (v0 : Option Nat) (v1 : Int32) (v2 : Int32) (v3 : Int32) (v4 : Int32) (v5 : UInt64) (v7 : UInt64) (h : Hp) : Option (Unit × Hp) :=
  f_X9_looksAt_65 v0 v1 v2 v3 v4 v5 v7 0 h
set_option maxHeartbeats 4000000 in
set_option maxRecDepth 100000 in
theorem w_X9_looksAt_64 {p : Program} {l : Launch} {e : Env} {s : State} {m : MethodId} {args : Array Value} {below : List Frame} {meth : Method} {c : Code} {D : va_G} {cA : Nat → ClassId} {sz : Nat}  {hh : Hp}  (X : ab_X p s m args meth c cX9_looksAt 18 RX9 D cA sz) (hr : meth.sig.returnType = none)  {H : Heap} {locs : List Loc} {ls : Array Slot} {v0 : Option Nat} {v1 : Int32} {v2 : Int32} {v3 : Int32} {v4 : Int32} {v5 : UInt64} {v7 : UInt64} {h : Hp} (S : ab_H D cA sz h s H locs) (hl : lv_has ls 18 [(0, va_rf v0), (1, .int v1), (2, .int v2), (3, .int v3), (4, .int v4), (5, .double v5), (7, .double v7)]) (hF : f_X9_looksAt_64 v0 v1 v2 v3 v4 v5 v7 h = some ((), hh)) : W p l e (ab_rm 6 0 0) s m args below meth c H locs 0 0 (MQ below (ab_Q D cA sz none hh) args s 0 0 (fun q => sz ≤ q)) (F0 m 64 ls []) := by
  unfold f_X9_looksAt_64 at hF
  refine lv_iconst (v := 0) X.1 X.2.1 dX9_looksAt_64 (by decide) ?_
  exact w_X9_looksAt_65 X hr  S (lv_sub hl [0, 1, 2, 3, 4, 5, 6] rfl) hF
def f_X9_looksAt (this : Nat) (p0 : Int32) (p1 : Int32) (h : Hp) : Option (Unit × Hp) :=
  (getR h (some this) 9 31).bind fun x1 =>
  (aldI h x1 11 ((4 * p0) + p1)).bind fun x2 =>
  (getR h (some this) 9 32).bind fun x3 =>
  (aldI h x3 11 ((4 * p0) + p1)).bind fun x4 =>
  (ab_ck h (some this) (9, 0)).bind fun a8 =>
  bnd (f_X9_valueAt a8 p0 x2 FP.dconst0 h) fun x5 h6 =>
  (ab_ck h6 (some this) (9, 0)).bind fun a13 =>
  bnd (f_X9_valueAt a13 p0 x2 FP.dconst1 h6) fun x10 h11 =>
  if 0 ≤ (Op.cmpValue (FP.dcmp x5 FP.dconst0) CmpOp.g) then
    f_X9_looksAt_64 (some this) p0 p1 x2 x4 x5 x10 h11
  else
    if (Op.cmpValue (FP.dcmp x10 FP.dconst0) CmpOp.l) < 0 then
      f_X9_looksAt_64 (some this) p0 p1 x2 x4 x5 x10 h11
    else
      if x4 < 0 then
        f_X9_looksAt_64 (some this) p0 p1 x2 x4 x5 x10 h11
      else
        f_X9_looksAt_65 (some this) p0 p1 x2 x4 x5 x10 1 h11
theorem mi_X9_looksAt : ab_MI yX9_looksAt cX9_looksAt 18 none 2 := ⟨lc_yX9_looksAt, lz_RX9, by decide, by decide, by decide +kernel⟩
set_option maxHeartbeats 4000000 in
set_option maxRecDepth 100000 in
theorem c_X9_looksAt (l : Launch) (D : va_G) (cA : Nat → ClassId) (sz : Nat) {this : Nat} {p0 : Int32} {p1 : Int32} {h hh : Hp}  (hF : f_X9_looksAt this p0 p1 h = some ((), hh)) : ab_C l D cA sz yX9_looksAt cX9_looksAt 18 none 6 0 0 [.ref this, .int p0, .int p1] h none hh := by
  refine Met.ofW (cc := cX9_looksAt) (maxL := 18) (ret := none) (by decide) rfl ?_
  intro p e s m args below meth c s₁ B hml hv
  obtain ⟨rfl, hT, hR⟩ := hv
  have X : ab_X p s m _ meth c cX9_looksAt 18 RX9 D cA sz := (ab_enter B hml hT hR).1
  have S := (ab_enter B hml hT hR).2
  have hr := B.returns
  obtain ⟨ls, hls, hl⟩ := ab_entry m [.ref this, .int p0, .int p1] 18 (lv := [(0, .ref this), (1, .int p0), (2, .int p1)]) (by simp [lg_sl, ab_cat, ab_cI, ab_cJ, ab_cD, ab_cF, ab_cA]) (by simp [lv_args, ab_cat, ab_cI, ab_cJ, ab_cD, ab_cF, ab_cA])
  rw [hls]
  have hl : lv_has ls 18 [(0, va_rf (some this)), (1, .int p0), (2, .int p1)] := hl
  unfold f_X9_looksAt at hF
  show W p l e (ab_rm 6 0 0) s m _ below meth c s.heap [] 0 0 _ _
  refine ab_aload_n X dX9_looksAt_0 rfl (lv_at hl 0 rfl) ?_
  refine ab_getR X S hF fi_9_31 lf_X9_101 dX9_looksAt_1 (fun x1 hF => ?_)
  refine lv_iconst (v := 4) X.1 X.2.1 dX9_looksAt_4 (by decide) ?_
  refine lv_iload_n X.1 X.2.1 dX9_looksAt_5 rfl (lv_at hl 1 rfl) ?_
  refine lv_imul X.1 X.2.1 dX9_looksAt_6 ?_
  refine lv_iload_n X.1 X.2.1 dX9_looksAt_7 rfl (lv_at hl 2 rfl) ?_
  refine lv_iadd X.1 X.2.1 dX9_looksAt_8 ?_
  refine ab_aldI X S hF dX9_looksAt_9 (fun x2 hF => ?_)
  refine lv_istore_n (i := 3) (lv' := [(3, .int x2), (0, va_rf (some this)), (1, .int p0), (2, .int p1)]) X.1 X.2.1 dX9_looksAt_10 rfl hl (by decide) (by simp [ab_cat, ab_cI, ab_cJ, ab_cD, ab_cF]) (fun ls hl => ?_)
  refine ab_aload_n X dX9_looksAt_11 rfl (lv_at hl 1 rfl) ?_
  refine ab_getR X S hF fi_9_32 lf_X9_104 dX9_looksAt_12 (fun x3 hF => ?_)
  refine lv_iconst (v := 4) X.1 X.2.1 dX9_looksAt_15 (by decide) ?_
  refine lv_iload_n X.1 X.2.1 dX9_looksAt_16 rfl (lv_at hl 2 rfl) ?_
  refine lv_imul X.1 X.2.1 dX9_looksAt_17 ?_
  refine lv_iload_n X.1 X.2.1 dX9_looksAt_18 rfl (lv_at hl 3 rfl) ?_
  refine lv_iadd X.1 X.2.1 dX9_looksAt_19 ?_
  refine ab_aldI X S hF dX9_looksAt_20 (fun x4 hF => ?_)
  refine lv_istore (lv' := [(4, .int x4), (3, .int x2), (0, va_rf (some this)), (1, .int p0), (2, .int p1)]) X.1 X.2.1 dX9_looksAt_21 hl (by decide) (by simp [ab_cat, ab_cI, ab_cJ, ab_cD, ab_cF]) (fun ls hl => ?_)
  refine ab_aload_n X dX9_looksAt_23 rfl (lv_at hl 2 rfl) ?_
  refine lv_iload_n X.1 X.2.1 dX9_looksAt_24 rfl (lv_at hl 3 rfl) ?_
  refine lv_iload_n X.1 X.2.1 dX9_looksAt_25 rfl (lv_at hl 1 rfl) ?_
  refine lv_dconst0 X.1 X.2.1 dX9_looksAt_26 ?_
  obtain ⟨a8, e9, hF⟩ := bind_out hF
  obtain ⟨x5, h6, e7, hF⟩ := bnd_out hF
  refine ab_callVd X S e9 (c_X9_valueAt l D cA sz e7) rfl (by decide) mi_X9_valueAt lm_X9_333 li_yX9_valueAt ls_yX9_valueAt (As := [.int p0, .int x2, .double FP.dconst0]) (rest := []) rfl ⟨by decide, by decide⟩ ⟨(by decide), (by decide)⟩ hl.1 rfl (by simp [ab_cat, ab_cI, ab_cJ, ab_cD, ab_cF]) dX9_looksAt_27 (fun H1 locs1 S => ?_)
  refine lv_dstore (lv' := [(5, .double x5), (4, .int x4), (3, .int x2), (0, va_rf (some this)), (1, .int p0), (2, .int p1)]) X.1 X.2.1 dX9_looksAt_30 hl (by decide) (by simp [ab_cat, ab_cI, ab_cJ, ab_cD, ab_cF]) (fun ls hl => ?_)
  refine ab_aload_n X dX9_looksAt_32 rfl (lv_at hl 3 rfl) ?_
  refine lv_iload_n X.1 X.2.1 dX9_looksAt_33 rfl (lv_at hl 4 rfl) ?_
  refine lv_iload_n X.1 X.2.1 dX9_looksAt_34 rfl (lv_at hl 2 rfl) ?_
  refine lv_dconst1 X.1 X.2.1 dX9_looksAt_35 ?_
  obtain ⟨a13, e14, hF⟩ := bind_out hF
  obtain ⟨x10, h11, e12, hF⟩ := bnd_out hF
  refine ab_callVd X S e14 (c_X9_valueAt l D cA sz e12) rfl (by decide) mi_X9_valueAt lm_X9_333 li_yX9_valueAt ls_yX9_valueAt (As := [.int p0, .int x2, .double FP.dconst1]) (rest := []) rfl ⟨by decide, by decide⟩ ⟨(by decide), (by decide)⟩ hl.1 rfl (by simp [ab_cat, ab_cI, ab_cJ, ab_cD, ab_cF]) dX9_looksAt_36 (fun H1 locs1 S => ?_)
  refine lv_dstore (lv' := [(7, .double x10), (5, .double x5), (4, .int x4), (3, .int x2), (0, va_rf (some this)), (1, .int p0), (2, .int p1)]) X.1 X.2.1 dX9_looksAt_39 hl (by decide) (by simp [ab_cat, ab_cI, ab_cJ, ab_cD, ab_cF]) (fun ls hl => ?_)
  refine lv_dload X.1 X.2.1 dX9_looksAt_41 (lv_at hl 1 rfl) ?_
  refine lv_dconst0 X.1 X.2.1 dX9_looksAt_43 ?_
  refine lv_dcmp X.1 X.2.1 dX9_looksAt_44 ?_
  refine lv_if_ge (tgt := 64) X.1 X.2.1 dX9_looksAt_45 (by decide) (fun c15 => ?_) (fun c15 => ?_)
  · have hF := ab_pos c15 hF
    exact w_X9_looksAt_64 X hr  S (lv_sub hl [4, 5, 6, 3, 2, 1, 0] rfl) hF
  · have hF := ab_neg c15 hF
    refine lv_dload X.1 X.2.1 dX9_looksAt_48 (lv_at hl 0 rfl) ?_
    refine lv_dconst0 X.1 X.2.1 dX9_looksAt_50 ?_
    refine lv_dcmp X.1 X.2.1 dX9_looksAt_51 ?_
    refine lv_if_lt (tgt := 64) X.1 X.2.1 dX9_looksAt_52 (by decide) (fun c16 => ?_) (fun c16 => ?_)
    · have hF := ab_pos c16 hF
      exact w_X9_looksAt_64 X hr  S (lv_sub hl [4, 5, 6, 3, 2, 1, 0] rfl) hF
    · have hF := ab_neg c16 hF
      refine lv_iload X.1 X.2.1 dX9_looksAt_55 (lv_at hl 2 rfl) ?_
      refine lv_if_lt (tgt := 64) X.1 X.2.1 dX9_looksAt_57 (by decide) (fun c17 => ?_) (fun c17 => ?_)
      · have hF := ab_pos c17 hF
        exact w_X9_looksAt_64 X hr  S (lv_sub hl [4, 5, 6, 3, 2, 1, 0] rfl) hF
      · have hF := ab_neg c17 hF
        refine lv_iconst (v := 1) X.1 X.2.1 dX9_looksAt_60 (by decide) ?_
        refine lv_goto (tgt := 65) X.1 X.2.1 dX9_looksAt_61 (by decide) ?_
        exact w_X9_looksAt_65 X hr  S (lv_sub hl [4, 5, 6, 3, 2, 1, 0] rfl) hF
def f_X9_fires_220  (v0 : Option Nat) (u0 : Int32) (u1 : Int32) (h : Hp) : Option (Unit × Hp) :=
  (getR h v0 9 30).bind fun x1 =>
  (getR h v0 9 30).bind fun x2 =>
  (aldD h x2 (u1 + u0)).bind fun x3 =>
  bnd (f_X9_turned x3 h) fun x4 h5 =>
  (astD h5 x1 (u1 + u0) x4).bind fun h7 =>
  some ((), h7)
set_option maxHeartbeats 4000000 in
set_option maxRecDepth 100000 in
theorem w_X9_fires_220 {p : Program} {l : Launch} {e : Env} {s : State} {m : MethodId} {args : Array Value} {below : List Frame} {meth : Method} {c : Code} {D : va_G} {cA : Nat → ClassId} {sz : Nat}  {hh : Hp}  (X : ab_X p s m args meth c cX9_fires 9 RX9 D cA sz) (hr : meth.sig.returnType = none)  {H : Heap} {locs : List Loc} {ls : Array Slot} {v0 : Option Nat} {u0 : Int32} {u1 : Int32} {h : Hp} (S : ab_H D cA sz h s H locs) (hl : lv_has ls 9 [(0, va_rf v0)]) (hF : f_X9_fires_220 v0 u0 u1 h = some ((), hh)) : W p l e (ab_rm 3 0 0) s m args below meth c H locs 0 0 (MQ below (ab_Q D cA sz none hh) args s 0 0 (fun q => sz ≤ q)) (F0 m 220 ls [.int u0, .int u1]) := by
  unfold f_X9_fires_220 at hF
  refine lv_iadd X.1 X.2.1 dX9_fires_220 ?_
  refine lv_istore (lv' := [(8, .int (u1 + u0)), (0, va_rf v0)]) X.1 X.2.1 dX9_fires_221 hl (by decide) (by simp [ab_cat, ab_cI, ab_cJ, ab_cD, ab_cF]) (fun ls hl => ?_)
  refine ab_aload_n X dX9_fires_223 rfl (lv_at hl 1 rfl) ?_
  refine ab_getR X S hF fi_9_30 lf_X9_98 dX9_fires_224 (fun x1 hF => ?_)
  refine lv_iload X.1 X.2.1 dX9_fires_227 (lv_at hl 0 rfl) ?_
  refine ab_aload_n X dX9_fires_229 rfl (lv_at hl 1 rfl) ?_
  refine ab_getR X S hF fi_9_30 lf_X9_98 dX9_fires_230 (fun x2 hF => ?_)
  refine lv_iload X.1 X.2.1 dX9_fires_233 (lv_at hl 0 rfl) ?_
  refine ab_aldD X S hF dX9_fires_235 (fun x3 hF => ?_)
  obtain ⟨x4, h5, e6, hF⟩ := bnd_out hF
  refine ab_callSd X S (c_X9_turned l D cA sz e6) mi_X9_turned lm_X9_217 lt_yX9_turned (As := [.double x3]) (rest := [.int (u1 + u0), va_rf x1]) rfl ⟨by decide, by decide⟩ ⟨(by decide), (by decide)⟩ hl.1 rfl (by simp [ab_cat, ab_cI, ab_cJ, ab_cD, ab_cF]) dX9_fires_236 (fun H1 locs1 S => ?_)
  refine ab_astD X S hF dX9_fires_239 (fun h7 H1 locs1 hF S => ?_)
  exact ab_vret X S hr hF dX9_fires_240
def f_X9_fires_219  (v0 : Option Nat) (u0 : Int32) (h : Hp) : Option (Unit × Hp) :=
  f_X9_fires_220 v0 0 u0 h
set_option maxHeartbeats 4000000 in
set_option maxRecDepth 100000 in
theorem w_X9_fires_219 {p : Program} {l : Launch} {e : Env} {s : State} {m : MethodId} {args : Array Value} {below : List Frame} {meth : Method} {c : Code} {D : va_G} {cA : Nat → ClassId} {sz : Nat}  {hh : Hp}  (X : ab_X p s m args meth c cX9_fires 9 RX9 D cA sz) (hr : meth.sig.returnType = none)  {H : Heap} {locs : List Loc} {ls : Array Slot} {v0 : Option Nat} {u0 : Int32} {h : Hp} (S : ab_H D cA sz h s H locs) (hl : lv_has ls 9 [(0, va_rf v0)]) (hF : f_X9_fires_219 v0 u0 h = some ((), hh)) : W p l e (ab_rm 3 0 0) s m args below meth c H locs 0 0 (MQ below (ab_Q D cA sz none hh) args s 0 0 (fun q => sz ≤ q)) (F0 m 219 ls [.int u0]) := by
  unfold f_X9_fires_219 at hF
  refine lv_iconst (v := 0) X.1 X.2.1 dX9_fires_219 (by decide) ?_
  exact w_X9_fires_220 X hr  S (lv_sub hl [0] rfl) hF
def f_X9_fires_179  (v0 : Option Nat) (v1 : Int32) (v2 : Int32) (v5 : Int32) (v6 : Int32) (h : Hp) : Option (Unit × Hp) :=
  if v5 = 2 then
    (getR h v0 9 34).bind fun x2 =>
    (aldI h x2 11 ((4 * v1) + v2)).bind fun x3 =>
    if x3 < 0 then
      f_X9_fires_219 v0 (6 * v1) h
    else
      if v6 ≤ x3 then
        f_X9_fires_219 v0 (6 * v1) h
      else
        f_X9_fires_220 v0 x3 (6 * v1) h
  else
    some ((), h)
set_option maxHeartbeats 4000000 in
set_option maxRecDepth 100000 in
theorem w_X9_fires_179 {p : Program} {l : Launch} {e : Env} {s : State} {m : MethodId} {args : Array Value} {below : List Frame} {meth : Method} {c : Code} {D : va_G} {cA : Nat → ClassId} {sz : Nat}  {hh : Hp}  (X : ab_X p s m args meth c cX9_fires 9 RX9 D cA sz) (hr : meth.sig.returnType = none)  {H : Heap} {locs : List Loc} {ls : Array Slot} {v0 : Option Nat} {v1 : Int32} {v2 : Int32} {v5 : Int32} {v6 : Int32} {h : Hp} (S : ab_H D cA sz h s H locs) (hl : lv_has ls 9 [(0, va_rf v0), (1, .int v1), (2, .int v2), (5, .int v5), (6, .int v6)]) (hF : f_X9_fires_179 v0 v1 v2 v5 v6 h = some ((), hh)) : W p l e (ab_rm 3 0 0) s m args below meth c H locs 0 0 (MQ below (ab_Q D cA sz none hh) args s 0 0 (fun q => sz ≤ q)) (F0 m 179 ls []) := by
  unfold f_X9_fires_179 at hF
  refine lv_iload X.1 X.2.1 dX9_fires_179 (lv_at hl 3 rfl) ?_
  refine lv_iconst (v := 2) X.1 X.2.1 dX9_fires_181 (by decide) ?_
  refine lv_icmp_eq (tgt := 186) X.1 X.2.1 dX9_fires_182 (by decide) (fun c1 => ?_) (fun c1 => ?_)
  · have hF := ab_pos c1 hF
    refine ab_aload_n X dX9_fires_186 rfl (lv_at hl 0 rfl) ?_
    refine ab_getR X S hF fi_9_34 lf_X9_110 dX9_fires_187 (fun x2 hF => ?_)
    refine lv_iconst (v := 4) X.1 X.2.1 dX9_fires_190 (by decide) ?_
    refine lv_iload_n X.1 X.2.1 dX9_fires_191 rfl (lv_at hl 1 rfl) ?_
    refine lv_imul X.1 X.2.1 dX9_fires_192 ?_
    refine lv_iload_n X.1 X.2.1 dX9_fires_193 rfl (lv_at hl 2 rfl) ?_
    refine lv_iadd X.1 X.2.1 dX9_fires_194 ?_
    refine ab_aldI X S hF dX9_fires_195 (fun x3 hF => ?_)
    refine lv_istore (lv' := [(7, .int x3), (0, va_rf v0), (1, .int v1), (2, .int v2), (5, .int v5), (6, .int v6)]) X.1 X.2.1 dX9_fires_196 hl (by decide) (by simp [ab_cat, ab_cI, ab_cJ, ab_cD, ab_cF]) (fun ls hl => ?_)
    refine lv_bipush (v := 6) X.1 X.2.1 dX9_fires_198 (by decide) ?_
    refine lv_iload_n X.1 X.2.1 dX9_fires_200 rfl (lv_at hl 2 rfl) ?_
    refine lv_imul X.1 X.2.1 dX9_fires_201 ?_
    refine lv_iload X.1 X.2.1 dX9_fires_202 (lv_at hl 0 rfl) ?_
    refine lv_if_lt (tgt := 219) X.1 X.2.1 dX9_fires_204 (by decide) (fun c4 => ?_) (fun c4 => ?_)
    · have hF := ab_pos c4 hF
      exact w_X9_fires_219 X hr  S (lv_sub hl [1] rfl) hF
    · have hF := ab_neg c4 hF
      refine lv_iload X.1 X.2.1 dX9_fires_207 (lv_at hl 0 rfl) ?_
      refine lv_iload X.1 X.2.1 dX9_fires_209 (lv_at hl 5 rfl) ?_
      refine lv_icmp_ge (tgt := 219) X.1 X.2.1 dX9_fires_211 (by decide) (fun c5 => ?_) (fun c5 => ?_)
      · have hF := ab_pos c5 hF
        exact w_X9_fires_219 X hr  S (lv_sub hl [1] rfl) hF
      · have hF := ab_neg c5 hF
        refine lv_iload X.1 X.2.1 dX9_fires_214 (lv_at hl 0 rfl) ?_
        refine lv_goto (tgt := 220) X.1 X.2.1 dX9_fires_216 (by decide) ?_
        exact w_X9_fires_220 X hr  S (lv_sub hl [1] rfl) hF
  · have hF := ab_neg c1 hF
    exact ab_vret X S hr hF dX9_fires_185
def f_X9_fires_166  (v0 : Option Nat) (v1 : Int32) (v2 : Int32) (v5 : Int32) (v6 : Int32) (h : Hp) : Option (Unit × Hp) :=
  if ¬ v5 = 1 then
    f_X9_fires_179 v0 v1 v2 v5 v6 h
  else
    (getR h v0 9 22).bind fun x2 =>
    (astZ h x2 v1 1).bind fun h3 =>
    f_X9_fires_179 v0 v1 v2 v5 v6 h3
set_option maxHeartbeats 4000000 in
set_option maxRecDepth 100000 in
theorem w_X9_fires_166 {p : Program} {l : Launch} {e : Env} {s : State} {m : MethodId} {args : Array Value} {below : List Frame} {meth : Method} {c : Code} {D : va_G} {cA : Nat → ClassId} {sz : Nat}  {hh : Hp}  (X : ab_X p s m args meth c cX9_fires 9 RX9 D cA sz) (hr : meth.sig.returnType = none)  {H : Heap} {locs : List Loc} {ls : Array Slot} {v0 : Option Nat} {v1 : Int32} {v2 : Int32} {v5 : Int32} {v6 : Int32} {h : Hp} (S : ab_H D cA sz h s H locs) (hl : lv_has ls 9 [(0, va_rf v0), (1, .int v1), (2, .int v2), (5, .int v5), (6, .int v6)]) (hF : f_X9_fires_166 v0 v1 v2 v5 v6 h = some ((), hh)) : W p l e (ab_rm 3 0 0) s m args below meth c H locs 0 0 (MQ below (ab_Q D cA sz none hh) args s 0 0 (fun q => sz ≤ q)) (F0 m 166 ls []) := by
  unfold f_X9_fires_166 at hF
  refine lv_iload X.1 X.2.1 dX9_fires_166 (lv_at hl 3 rfl) ?_
  refine lv_iconst (v := 1) X.1 X.2.1 dX9_fires_168 (by decide) ?_
  refine lv_icmp_ne (tgt := 179) X.1 X.2.1 dX9_fires_169 (by decide) (fun c1 => ?_) (fun c1 => ?_)
  · have hF := ab_pos c1 hF
    exact w_X9_fires_179 X hr  S (lv_sub hl [0, 1, 2, 3, 4] rfl) hF
  · have hF := ab_neg (fun q => q c1) hF
    refine ab_aload_n X dX9_fires_172 rfl (lv_at hl 0 rfl) ?_
    refine ab_getR X S hF fi_9_22 lf_X9_73 dX9_fires_173 (fun x2 hF => ?_)
    refine lv_iload_n X.1 X.2.1 dX9_fires_176 rfl (lv_at hl 1 rfl) ?_
    refine lv_iconst (v := 1) X.1 X.2.1 dX9_fires_177 (by decide) ?_
    refine ab_astZ X S hF dX9_fires_178 (fun h3 H1 locs1 hF S => ?_)
    exact w_X9_fires_179 X hr  S (lv_sub hl [0, 1, 2, 3, 4] rfl) hF
def f_X9_fires_121  : Nat → Option Nat → Int32 → Int32 → UInt64 → Int32 → Int32 → Int32 → Hp → Option (Unit × Hp)
  | 0, _, _, _, _, _, _, _, _ => none
  | n + 1, v0, v1, v2, v3, v5, v6, v7, h => if v6 ≤ v7 then
      (getR h v0 9 25).bind fun x2 =>
      (astD h x2 v1 v3).bind fun h3 =>
      f_X9_fires_166 v0 v1 v2 v5 v6 h3
    else
      (getR h v0 9 30).bind fun x4 =>
      (getR h v0 9 58).bind fun x5 =>
      (aldD h x5 v2).bind fun x6 =>
      (ab_ck h v0 (9, 0)).bind fun a10 =>
      bnd (f_X9_cubic a10 v1 v7 x6 h) fun x7 h8 =>
      (astD h8 x4 ((6 * v1) + v7) x7).bind fun h12 =>
      f_X9_fires_121 n v0 v1 v2 v3 v5 v6 (v7 + 1) h12
set_option maxHeartbeats 4000000 in
set_option maxRecDepth 100000 in
theorem w_X9_fires_121 {p : Program} {l : Launch} {e : Env} {s : State} {m : MethodId} {args : Array Value} {below : List Frame} {meth : Method} {c : Code} {D : va_G} {cA : Nat → ClassId} {sz : Nat}  {hh : Hp}  (X : ab_X p s m args meth c cX9_fires 9 RX9 D cA sz) (hr : meth.sig.returnType = none)  (n : Nat) : ∀ (v0 : Option Nat) (v1 : Int32) (v2 : Int32) (v3 : UInt64) (v5 : Int32) (v6 : Int32) (v7 : Int32) (h : Hp) (H : Heap) (locs : List Loc) (ls : Array Slot), ab_H D cA sz h s H locs → lv_has ls 9 [(0, va_rf v0), (1, .int v1), (2, .int v2), (3, .double v3), (5, .int v5), (6, .int v6), (7, .int v7)] → f_X9_fires_121 n v0 v1 v2 v3 v5 v6 v7 h = some ((), hh) → W p l e (ab_rm 3 0 0) s m args below meth c H locs 0 0 (MQ below (ab_Q D cA sz none hh) args s 0 0 (fun q => sz ≤ q)) (F0 m 121 ls []) := by
  induction n with
  | zero => intro v0 v1 v2 v3 v5 v6 v7 h H locs ls S hl hF; cases hF
  | succ n ih =>
    intro v0 v1 v2 v3 v5 v6 v7 h H locs ls S hl hF
    rw [f_X9_fires_121] at hF
    refine lv_iload X.1 X.2.1 dX9_fires_121 (lv_at hl 6 rfl) ?_
    refine lv_iload X.1 X.2.1 dX9_fires_123 (lv_at hl 5 rfl) ?_
    refine lv_icmp_ge (tgt := 159) X.1 X.2.1 dX9_fires_125 (by decide) (fun c1 => ?_) (fun c1 => ?_)
    · have hF := ab_pos c1 hF
      refine ab_aload_n X dX9_fires_159 rfl (lv_at hl 0 rfl) ?_
      refine ab_getR X S hF fi_9_25 lf_X9_83 dX9_fires_160 (fun x2 hF => ?_)
      refine lv_iload_n X.1 X.2.1 dX9_fires_163 rfl (lv_at hl 1 rfl) ?_
      refine lv_dload_n X.1 X.2.1 dX9_fires_164 rfl (lv_at hl 3 rfl) ?_
      refine ab_astD X S hF dX9_fires_165 (fun h3 H1 locs1 hF S => ?_)
      exact w_X9_fires_166 X hr  S (lv_sub hl [0, 1, 2, 4, 5] rfl) hF
    · have hF := ab_neg c1 hF
      refine ab_aload_n X dX9_fires_128 rfl (lv_at hl 0 rfl) ?_
      refine ab_getR X S hF fi_9_30 lf_X9_98 dX9_fires_129 (fun x4 hF => ?_)
      refine lv_bipush (v := 6) X.1 X.2.1 dX9_fires_132 (by decide) ?_
      refine lv_iload_n X.1 X.2.1 dX9_fires_134 rfl (lv_at hl 1 rfl) ?_
      refine lv_imul X.1 X.2.1 dX9_fires_135 ?_
      refine lv_iload X.1 X.2.1 dX9_fires_136 (lv_at hl 6 rfl) ?_
      refine lv_iadd X.1 X.2.1 dX9_fires_138 ?_
      refine ab_aload_n X dX9_fires_139 rfl (lv_at hl 0 rfl) ?_
      refine lv_iload_n X.1 X.2.1 dX9_fires_140 rfl (lv_at hl 1 rfl) ?_
      refine lv_iload X.1 X.2.1 dX9_fires_141 (lv_at hl 6 rfl) ?_
      refine ab_aload_n X dX9_fires_143 rfl (lv_at hl 0 rfl) ?_
      refine ab_getR X S hF fi_9_58 lf_X9_179 dX9_fires_144 (fun x5 hF => ?_)
      refine lv_iload_n X.1 X.2.1 dX9_fires_147 rfl (lv_at hl 2 rfl) ?_
      refine ab_aldD X S hF dX9_fires_148 (fun x6 hF => ?_)
      obtain ⟨a10, e11, hF⟩ := bind_out hF
      obtain ⟨x7, h8, e9, hF⟩ := bnd_out hF
      refine ab_callVd X S e11 (c_X9_cubic l D cA sz e9) rfl (by decide) mi_X9_cubic lm_X9_330 li_yX9_cubic ls_yX9_cubic (As := [.int v1, .int v7, .double x6]) (rest := [.int ((6 * v1) + v7), va_rf x4]) rfl ⟨by decide, by decide⟩ ⟨(by decide), (by decide)⟩ hl.1 rfl (by simp [ab_cat, ab_cI, ab_cJ, ab_cD, ab_cF]) dX9_fires_149 (fun H1 locs1 S => ?_)
      refine ab_astD X S hF dX9_fires_152 (fun h12 H1 locs1 hF S => ?_)
      refine lv_iinc (v := v7 + 1) (lv' := [(7, .int (v7 + 1)), (0, va_rf v0), (1, .int v1), (2, .int v2), (3, .double v3), (5, .int v5), (6, .int v6)]) X.1 X.2.1 dX9_fires_153 hl (k := 6) rfl (by rfl) (by decide) (by simp [ab_cat, ab_cI, ab_cJ, ab_cD, ab_cF]) (fun ls hl => ?_)
      refine lv_goto (tgt := 121) X.1 X.2.1 dX9_fires_156 (by decide) ?_
      exact ih _ _ _ _ _ _ _ _ _ _ _ S (lv_sub hl [1, 2, 3, 4, 5, 6, 0] rfl) hF
def f_X9_fires_66  (v0 : Option Nat) (v1 : Int32) (v2 : Int32) (v3 : UInt64) (h : Hp) : Option (Unit × Hp) :=
  (getR h v0 9 21).bind fun x1 =>
  (aldI h x1 11 v1).bind fun x2 =>
  (astI h x1 v1 (x2 + 1)).bind fun h3 =>
  (getR h3 v0 9 33).bind fun x4 =>
  (aldI h3 x4 11 ((4 * v1) + v2)).bind fun x5 =>
  if ¬ x5 = 0 then
    (getR h3 v0 9 0).bind fun x7 =>
    (getR h3 v0 9 15).bind fun x8 =>
    (aldI h3 x8 11 v1).bind fun x9 =>
    (aldI h3 x7 11 x9).bind fun x10 =>
    (getR h3 v0 9 58).bind fun x11 =>
    (aldD h3 x11 v2).bind fun x12 =>
    if (Op.cmpValue (FP.dcmp x12 FP.dconst1) CmpOp.l) = 0 then
      f_X9_fires_166 v0 v1 v2 x5 x10 h3
    else
      f_X9_fires_121 fuelN v0 v1 v2 v3 x5 x10 0 h3
  else
    some ((), h3)
set_option maxHeartbeats 4000000 in
set_option maxRecDepth 100000 in
theorem w_X9_fires_66 {p : Program} {l : Launch} {e : Env} {s : State} {m : MethodId} {args : Array Value} {below : List Frame} {meth : Method} {c : Code} {D : va_G} {cA : Nat → ClassId} {sz : Nat}  {hh : Hp}  (X : ab_X p s m args meth c cX9_fires 9 RX9 D cA sz) (hr : meth.sig.returnType = none)  {H : Heap} {locs : List Loc} {ls : Array Slot} {v0 : Option Nat} {v1 : Int32} {v2 : Int32} {v3 : UInt64} {h : Hp} (S : ab_H D cA sz h s H locs) (hl : lv_has ls 9 [(0, va_rf v0), (1, .int v1), (2, .int v2), (3, .double v3)]) (hF : f_X9_fires_66 v0 v1 v2 v3 h = some ((), hh)) : W p l e (ab_rm 3 0 0) s m args below meth c H locs 0 0 (MQ below (ab_Q D cA sz none hh) args s 0 0 (fun q => sz ≤ q)) (F0 m 66 ls []) := by
  unfold f_X9_fires_66 at hF
  refine ab_aload_n X dX9_fires_66 rfl (lv_at hl 0 rfl) ?_
  refine ab_getR X S hF fi_9_21 lf_X9_70 dX9_fires_67 (fun x1 hF => ?_)
  refine lv_iload_n X.1 X.2.1 dX9_fires_70 rfl (lv_at hl 1 rfl) ?_
  refine lv_dup2_11 X.1 X.2.1 dX9_fires_71 (by simp [ab_cat, ab_cI, ab_cJ, ab_cD, ab_cF]) (by simp [ab_cat, ab_cI, ab_cJ, ab_cD, ab_cF]) ?_
  refine ab_aldI X S hF dX9_fires_72 (fun x2 hF => ?_)
  refine lv_iconst (v := 1) X.1 X.2.1 dX9_fires_73 (by decide) ?_
  refine lv_iadd X.1 X.2.1 dX9_fires_74 ?_
  refine ab_astI X S hF dX9_fires_75 (fun h3 H1 locs1 hF S => ?_)
  refine ab_aload_n X dX9_fires_76 rfl (lv_at hl 0 rfl) ?_
  refine ab_getR X S hF fi_9_33 lf_X9_107 dX9_fires_77 (fun x4 hF => ?_)
  refine lv_iconst (v := 4) X.1 X.2.1 dX9_fires_80 (by decide) ?_
  refine lv_iload_n X.1 X.2.1 dX9_fires_81 rfl (lv_at hl 1 rfl) ?_
  refine lv_imul X.1 X.2.1 dX9_fires_82 ?_
  refine lv_iload_n X.1 X.2.1 dX9_fires_83 rfl (lv_at hl 2 rfl) ?_
  refine lv_iadd X.1 X.2.1 dX9_fires_84 ?_
  refine ab_aldI X S hF dX9_fires_85 (fun x5 hF => ?_)
  refine lv_istore (lv' := [(5, .int x5), (0, va_rf v0), (1, .int v1), (2, .int v2), (3, .double v3)]) X.1 X.2.1 dX9_fires_86 hl (by decide) (by simp [ab_cat, ab_cI, ab_cJ, ab_cD, ab_cF]) (fun ls hl => ?_)
  refine lv_iload X.1 X.2.1 dX9_fires_88 (lv_at hl 0 rfl) ?_
  refine lv_if_ne (tgt := 94) X.1 X.2.1 dX9_fires_90 (by decide) (fun c6 => ?_) (fun c6 => ?_)
  · have hF := ab_pos c6 hF
    refine ab_aload_n X dX9_fires_94 rfl (lv_at hl 1 rfl) ?_
    refine ab_getR X S hF fi_9_0 lf_X9_9 dX9_fires_95 (fun x7 hF => ?_)
    refine ab_aload_n X dX9_fires_98 rfl (lv_at hl 1 rfl) ?_
    refine ab_getR X S hF fi_9_15 lf_X9_52 dX9_fires_99 (fun x8 hF => ?_)
    refine lv_iload_n X.1 X.2.1 dX9_fires_102 rfl (lv_at hl 2 rfl) ?_
    refine ab_aldI X S hF dX9_fires_103 (fun x9 hF => ?_)
    refine ab_aldI X S hF dX9_fires_104 (fun x10 hF => ?_)
    refine lv_istore (lv' := [(6, .int x10), (5, .int x5), (0, va_rf v0), (1, .int v1), (2, .int v2), (3, .double v3)]) X.1 X.2.1 dX9_fires_105 hl (by decide) (by simp [ab_cat, ab_cI, ab_cJ, ab_cD, ab_cF]) (fun ls hl => ?_)
    refine ab_aload_n X dX9_fires_107 rfl (lv_at hl 2 rfl) ?_
    refine ab_getR X S hF fi_9_58 lf_X9_179 dX9_fires_108 (fun x11 hF => ?_)
    refine lv_iload_n X.1 X.2.1 dX9_fires_111 rfl (lv_at hl 4 rfl) ?_
    refine ab_aldD X S hF dX9_fires_112 (fun x12 hF => ?_)
    refine lv_dconst1 X.1 X.2.1 dX9_fires_113 ?_
    refine lv_dcmp X.1 X.2.1 dX9_fires_114 ?_
    refine lv_if_eq (tgt := 166) X.1 X.2.1 dX9_fires_115 (by decide) (fun c13 => ?_) (fun c13 => ?_)
    · have hF := ab_pos c13 hF
      exact w_X9_fires_166 X hr  S (lv_sub hl [2, 3, 4, 1, 0] rfl) hF
    · have hF := ab_neg c13 hF
      refine lv_iconst (v := 0) X.1 X.2.1 dX9_fires_118 (by decide) ?_
      refine lv_istore (lv' := [(7, .int 0), (6, .int x10), (5, .int x5), (0, va_rf v0), (1, .int v1), (2, .int v2), (3, .double v3)]) X.1 X.2.1 dX9_fires_119 hl (by decide) (by simp [ab_cat, ab_cI, ab_cJ, ab_cD, ab_cF]) (fun ls hl => ?_)
      exact w_X9_fires_121 X hr  fuelN _ _ _ _ _ _ _ _ _ _ _ S (lv_sub hl [3, 4, 5, 6, 2, 1, 0] rfl) hF
  · have hF := ab_neg (fun q => q c6) hF
    exact ab_vret X S hr hF dX9_fires_93
def f_X9_fires (this : Nat) (p0 : Int32) (p1 : Int32) (h : Hp) : Option (Unit × Hp) :=
  (getR h (some this) 9 38).bind fun x1 =>
  (aldD h x1 p0).bind fun x2 =>
  (getR h (some this) 9 58).bind fun x3 =>
  (aldD h x3 p1).bind fun x4 =>
  (getR h (some this) 9 39).bind fun x5 =>
  (aldD h x5 p0).bind fun x6 =>
  (fop (FP.dmul x4 x6)).bind fun x7 =>
  (fop (FP.dadd x2 x7)).bind fun x8 =>
  (getR h (some this) 9 21).bind fun x9 =>
  (aldI h x9 11 p0).bind fun x10 =>
  if 64 ≤ x10 then
    f_X9_fires_66 (some this) p0 p1 x8 h
  else
    (getR h (some this) 9 35).bind fun x12 =>
    (getR h (some this) 9 21).bind fun x13 =>
    (aldI h x13 11 p0).bind fun x14 =>
    (astI h x12 ((64 * p0) + x14) p1).bind fun h15 =>
    (getR h15 (some this) 9 36).bind fun x16 =>
    (getR h15 (some this) 9 21).bind fun x17 =>
    (aldI h15 x17 11 p0).bind fun x18 =>
    (astD h15 x16 ((64 * p0) + x18) x8).bind fun h19 =>
    f_X9_fires_66 (some this) p0 p1 x8 h19
theorem mi_X9_fires : ab_MI yX9_fires cX9_fires 9 none 2 := ⟨lc_yX9_fires, lz_RX9, by decide, by decide, by decide +kernel⟩
set_option maxHeartbeats 4000000 in
set_option maxRecDepth 100000 in
theorem c_X9_fires (l : Launch) (D : va_G) (cA : Nat → ClassId) (sz : Nat) {this : Nat} {p0 : Int32} {p1 : Int32} {h hh : Hp}  (hF : f_X9_fires this p0 p1 h = some ((), hh)) : ab_C l D cA sz yX9_fires cX9_fires 9 none 3 0 0 [.ref this, .int p0, .int p1] h none hh := by
  refine Met.ofW (cc := cX9_fires) (maxL := 9) (ret := none) (by decide) rfl ?_
  intro p e s m args below meth c s₁ B hml hv
  obtain ⟨rfl, hT, hR⟩ := hv
  have X : ab_X p s m _ meth c cX9_fires 9 RX9 D cA sz := (ab_enter B hml hT hR).1
  have S := (ab_enter B hml hT hR).2
  have hr := B.returns
  obtain ⟨ls, hls, hl⟩ := ab_entry m [.ref this, .int p0, .int p1] 9 (lv := [(0, .ref this), (1, .int p0), (2, .int p1)]) (by simp [lg_sl, ab_cat, ab_cI, ab_cJ, ab_cD, ab_cF, ab_cA]) (by simp [lv_args, ab_cat, ab_cI, ab_cJ, ab_cD, ab_cF, ab_cA])
  rw [hls]
  have hl : lv_has ls 9 [(0, va_rf (some this)), (1, .int p0), (2, .int p1)] := hl
  unfold f_X9_fires at hF
  show W p l e (ab_rm 3 0 0) s m _ below meth c s.heap [] 0 0 _ _
  refine ab_aload_n X dX9_fires_0 rfl (lv_at hl 0 rfl) ?_
  refine ab_getR X S hF fi_9_38 lf_X9_122 dX9_fires_1 (fun x1 hF => ?_)
  refine lv_iload_n X.1 X.2.1 dX9_fires_4 rfl (lv_at hl 1 rfl) ?_
  refine ab_aldD X S hF dX9_fires_5 (fun x2 hF => ?_)
  refine ab_aload_n X dX9_fires_6 rfl (lv_at hl 0 rfl) ?_
  refine ab_getR X S hF fi_9_58 lf_X9_179 dX9_fires_7 (fun x3 hF => ?_)
  refine lv_iload_n X.1 X.2.1 dX9_fires_10 rfl (lv_at hl 2 rfl) ?_
  refine ab_aldD X S hF dX9_fires_11 (fun x4 hF => ?_)
  refine ab_aload_n X dX9_fires_12 rfl (lv_at hl 0 rfl) ?_
  refine ab_getR X S hF fi_9_39 lf_X9_125 dX9_fires_13 (fun x5 hF => ?_)
  refine lv_iload_n X.1 X.2.1 dX9_fires_16 rfl (lv_at hl 1 rfl) ?_
  refine ab_aldD X S hF dX9_fires_17 (fun x6 hF => ?_)
  obtain ⟨x7, ev, ne, hF⟩ := ab_fopx hF
  refine lv_dmul X.1 X.2.1 dX9_fires_18 ne ?_
  rw [ev]
  obtain ⟨x8, ev, ne, hF⟩ := ab_fopx hF
  refine lv_dadd X.1 X.2.1 dX9_fires_19 ne ?_
  rw [ev]
  refine lv_dstore_n (i := 3) (lv' := [(3, .double x8), (0, va_rf (some this)), (1, .int p0), (2, .int p1)]) X.1 X.2.1 dX9_fires_20 rfl hl (by decide) (by simp [ab_cat, ab_cI, ab_cJ, ab_cD, ab_cF]) (fun ls hl => ?_)
  refine ab_aload_n X dX9_fires_21 rfl (lv_at hl 1 rfl) ?_
  refine ab_getR X S hF fi_9_21 lf_X9_70 dX9_fires_22 (fun x9 hF => ?_)
  refine lv_iload_n X.1 X.2.1 dX9_fires_25 rfl (lv_at hl 2 rfl) ?_
  refine ab_aldI X S hF dX9_fires_26 (fun x10 hF => ?_)
  refine lv_bipush (v := 64) X.1 X.2.1 dX9_fires_27 (by decide) ?_
  refine lv_icmp_ge (tgt := 66) X.1 X.2.1 dX9_fires_29 (by decide) (fun c11 => ?_) (fun c11 => ?_)
  · have hF := ab_pos c11 hF
    exact w_X9_fires_66 X hr  S (lv_sub hl [1, 2, 3, 0] rfl) hF
  · have hF := ab_neg c11 hF
    refine ab_aload_n X dX9_fires_32 rfl (lv_at hl 1 rfl) ?_
    refine ab_getR X S hF fi_9_35 lf_X9_113 dX9_fires_33 (fun x12 hF => ?_)
    refine lv_bipush (v := 64) X.1 X.2.1 dX9_fires_36 (by decide) ?_
    refine lv_iload_n X.1 X.2.1 dX9_fires_38 rfl (lv_at hl 2 rfl) ?_
    refine lv_imul X.1 X.2.1 dX9_fires_39 ?_
    refine ab_aload_n X dX9_fires_40 rfl (lv_at hl 1 rfl) ?_
    refine ab_getR X S hF fi_9_21 lf_X9_70 dX9_fires_41 (fun x13 hF => ?_)
    refine lv_iload_n X.1 X.2.1 dX9_fires_44 rfl (lv_at hl 2 rfl) ?_
    refine ab_aldI X S hF dX9_fires_45 (fun x14 hF => ?_)
    refine lv_iadd X.1 X.2.1 dX9_fires_46 ?_
    refine lv_iload_n X.1 X.2.1 dX9_fires_47 rfl (lv_at hl 3 rfl) ?_
    refine ab_astI X S hF dX9_fires_48 (fun h15 H1 locs1 hF S => ?_)
    refine ab_aload_n X dX9_fires_49 rfl (lv_at hl 1 rfl) ?_
    refine ab_getR X S hF fi_9_36 lf_X9_116 dX9_fires_50 (fun x16 hF => ?_)
    refine lv_bipush (v := 64) X.1 X.2.1 dX9_fires_53 (by decide) ?_
    refine lv_iload_n X.1 X.2.1 dX9_fires_55 rfl (lv_at hl 2 rfl) ?_
    refine lv_imul X.1 X.2.1 dX9_fires_56 ?_
    refine ab_aload_n X dX9_fires_57 rfl (lv_at hl 1 rfl) ?_
    refine ab_getR X S hF fi_9_21 lf_X9_70 dX9_fires_58 (fun x17 hF => ?_)
    refine lv_iload_n X.1 X.2.1 dX9_fires_61 rfl (lv_at hl 2 rfl) ?_
    refine ab_aldI X S hF dX9_fires_62 (fun x18 hF => ?_)
    refine lv_iadd X.1 X.2.1 dX9_fires_63 ?_
    refine lv_dload_n X.1 X.2.1 dX9_fires_64 rfl (lv_at hl 0 rfl) ?_
    refine ab_astD X S hF dX9_fires_65 (fun h19 H1 locs1 hF S => ?_)
    exact w_X9_fires_66 X hr  S (lv_sub hl [1, 2, 3, 0] rfl) hF
