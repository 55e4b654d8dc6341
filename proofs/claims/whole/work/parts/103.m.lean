def f_X6_blend (this : Nat) (p0 : Int32) (p1 : UInt64) (h : Hp) : Option (Unit × Hp) :=
  if ¬ (Op.cmpValue (FP.dcmp p1 FP.dconst0) CmpOp.l) = 0 then
    if ¬ (Op.cmpValue (FP.dcmp p1 FP.dconst1) CmpOp.l) = 0 then
      (fop (FP.dsub FP.dconst1 p1)).bind fun x3 =>
      (getR h (some this) 6 0).bind fun x4 =>
      (ab_ck h x4 (2, 0)).bind fun a8 =>
      bnd (f_X2_begin a8 h) fun _ h6 =>
      (getR h6 (some this) 6 0).bind fun x10 =>
      (getR h6 (some this) 6 0).bind fun x11 =>
      (fop (FP.dmul 4611686018427387904 p1)).bind fun x12 =>
      (fop (FP.dadd FP.dconst1 x12)).bind fun x13 =>
      (getR h6 (some this) 6 0).bind fun x14 =>
      (getR h6 (some this) 6 6).bind fun x15 =>
      (ab_ck h6 x14 (2, 0)).bind fun a19 =>
      bnd (f_X2_read a19 x15 p0 h6) fun x16 h17 =>
      (ab_ck h17 x11 (2, 0)).bind fun a24 =>
      bnd (f_X2_product a24 x13 x16 h17) fun x21 h22 =>
      (getR h22 (some this) 6 0).bind fun x26 =>
      (getD h22 (some this) 6 4).bind fun x27 =>
      (fop (FP.dmul p1 x27)).bind fun x28 =>
      (getR h22 (some this) 6 0).bind fun x29 =>
      (getR h22 (some this) 6 9).bind fun x30 =>
      (aldR h22 x30 14 0).bind fun x31 =>
      (ab_ck h22 x29 (2, 0)).bind fun a35 =>
      bnd (f_X2_read a35 x31 p0 h22) fun x32 h33 =>
      (ab_ck h33 x26 (2, 0)).bind fun a40 =>
      bnd (f_X2_product a40 x28 x32 h33) fun x37 h38 =>
      (ab_ck h38 x10 (2, 0)).bind fun a45 =>
      bnd (f_X2_sum a45 x21 x37 h38) fun x42 h43 =>
      (getR h43 (some this) 6 0).bind fun x47 =>
      (getR h43 (some this) 6 0).bind fun x48 =>
      (fop (FP.dmul 4611686018427387904 x3)).bind fun x49 =>
      (fop (FP.dadd FP.dconst1 x49)).bind fun x50 =>
      (getR h43 (some this) 6 0).bind fun x51 =>
      (getR h43 (some this) 6 8).bind fun x52 =>
      (ab_ck h43 x51 (2, 0)).bind fun a56 =>
      bnd (f_X2_read a56 x52 p0 h43) fun x53 h54 =>
      (ab_ck h54 x48 (2, 0)).bind fun a61 =>
      bnd (f_X2_product a61 x50 x53 h54) fun x58 h59 =>
      (getR h59 (some this) 6 0).bind fun x63 =>
      (getD h59 (some this) 6 4).bind fun x64 =>
      (fop (FP.dmul x3 x64)).bind fun x65 =>
      (getR h59 (some this) 6 0).bind fun x66 =>
      (getR h59 (some this) 6 11).bind fun x67 =>
      (ab_ck h59 x66 (2, 0)).bind fun a71 =>
      bnd (f_X2_read a71 x67 p0 h59) fun x68 h69 =>
      (ab_ck h69 x63 (2, 0)).bind fun a76 =>
      bnd (f_X2_product a76 x65 x68 h69) fun x73 h74 =>
      (ab_ck h74 x47 (2, 0)).bind fun a81 =>
      bnd (f_X2_difference a81 x58 x73 h74) fun x78 h79 =>
      (getR h79 (some this) 6 0).bind fun x83 =>
      (getR h79 (some this) 6 0).bind fun x84 =>
      (fop (FP.dmul x3 x3)).bind fun x85 =>
      (ab_ck h79 x84 (2, 0)).bind fun a89 =>
      bnd (f_X2_product a89 x85 x42 h79) fun x86 h87 =>
      (getR h87 (some this) 6 0).bind fun x91 =>
      (fop (FP.dmul p1 p1)).bind fun x92 =>
      (ab_ck h87 x91 (2, 0)).bind fun a96 =>
      bnd (f_X2_product a96 x92 x78 h87) fun x93 h94 =>
      (ab_ck h94 x83 (2, 0)).bind fun a101 =>
      bnd (f_X2_sum a101 x86 x93 h94) fun x98 h99 =>
      (getR h99 (some this) 6 7).bind fun x103 =>
      (getR h99 (some this) 6 0).bind fun x104 =>
      (getI h99 x104 2 1).bind fun x105 =>
      (getR h99 (some this) 6 1).bind fun x106 =>
      (ab_ck h99 x106 (1, 0)).bind fun a110 =>
      bnd (f_X1_isNarrow a110 p0 h99) fun x107 h108 =>
      (ab_ck h108 x103 (3, 0)).bind fun a115 =>
      bnd (f_X3_put a115 p0 x98 x105 x107 h108) fun _ h113 =>
      some ((), h113)
    else
      (getR h (some this) 6 7).bind fun x117 =>
      (getR h (some this) 6 8).bind fun x118 =>
      (ab_ck h x117 (3, 0)).bind fun a122 =>
      bnd (f_X3_copyOne a122 p0 x118 h) fun _ h120 =>
      some ((), h120)
  else
    (getR h (some this) 6 7).bind fun x124 =>
    (getR h (some this) 6 6).bind fun x125 =>
    (ab_ck h x124 (3, 0)).bind fun a129 =>
    bnd (f_X3_copyOne a129 p0 x125 h) fun _ h127 =>
    some ((), h127)
theorem mi_X6_blend : ab_MI yX6_blend cX6_blend 12 none 2 := ⟨lc_yX6_blend, lz_RX6, by decide, by decide, by decide +kernel⟩
set_option maxHeartbeats 4000000 in
set_option maxRecDepth 100000 in
theorem c_X6_blend (l : Launch) (D : va_G) (cA : Nat → ClassId) (sz : Nat) {this : Nat} {p0 : Int32} {p1 : UInt64} {h hh : Hp}  (hF : f_X6_blend this p0 p1 h = some ((), hh)) : ab_C l D cA sz yX6_blend cX6_blend 12 none 1 0 0 [.ref this, .int p0, .double p1] h none hh := by
  refine Met.ofW (cc := cX6_blend) (maxL := 12) (ret := none) (by decide) rfl ?_
  intro p e s m args below meth c s₁ B hml hv
  obtain ⟨rfl, hT, hR⟩ := hv
  have X : ab_X p s m _ meth c cX6_blend 12 RX6 D cA sz := (ab_enter B hml hT hR).1
  have S := (ab_enter B hml hT hR).2
  have hr := B.returns
  obtain ⟨ls, hls, hl⟩ := ab_entry m [.ref this, .int p0, .double p1] 12 (lv := [(0, .ref this), (1, .int p0), (2, .double p1)]) (by simp [lg_sl, ab_cat, ab_cI, ab_cJ, ab_cD, ab_cF, ab_cA]) (by simp [lv_args, ab_cat, ab_cI, ab_cJ, ab_cD, ab_cF, ab_cA])
  rw [hls]
  have hl : lv_has ls 12 [(0, va_rf (some this)), (1, .int p0), (2, .double p1)] := hl
  unfold f_X6_blend at hF
  show W p l e (ab_rm 1 0 0) s m _ below meth c s.heap [] 0 0 _ _
  refine lv_dload_n X.1 X.2.1 dX6_blend_0 rfl (lv_at hl 2 rfl) ?_
  refine lv_dconst0 X.1 X.2.1 dX6_blend_1 ?_
  refine lv_dcmp X.1 X.2.1 dX6_blend_2 ?_
  refine lv_if_ne (tgt := 19) X.1 X.2.1 dX6_blend_3 (by decide) (fun c1 => ?_) (fun c1 => ?_)
  · have hF := ab_pos c1 hF
    refine lv_dload_n X.1 X.2.1 dX6_blend_19 rfl (lv_at hl 2 rfl) ?_
    refine lv_dconst1 X.1 X.2.1 dX6_blend_20 ?_
    refine lv_dcmp X.1 X.2.1 dX6_blend_21 ?_
    refine lv_if_ne (tgt := 38) X.1 X.2.1 dX6_blend_22 (by decide) (fun c2 => ?_) (fun c2 => ?_)
    · have hF := ab_pos c2 hF
      refine lv_dconst1 X.1 X.2.1 dX6_blend_38 ?_
      refine lv_dload_n X.1 X.2.1 dX6_blend_39 rfl (lv_at hl 2 rfl) ?_
      obtain ⟨x3, ev, ne, hF⟩ := ab_fopx hF
      refine lv_dsub X.1 X.2.1 dX6_blend_40 ne ?_
      rw [ev]
      refine lv_dstore (lv' := [(4, .double x3), (0, va_rf (some this)), (1, .int p0), (2, .double p1)]) X.1 X.2.1 dX6_blend_41 hl (by decide) (by simp [ab_cat, ab_cI, ab_cJ, ab_cD, ab_cF]) (fun ls hl => ?_)
      refine ab_aload_n X dX6_blend_43 rfl (lv_at hl 1 rfl) ?_
      refine ab_getR X S hF fi_6_0 lf_X6_9 dX6_blend_44 (fun x4 hF => ?_)
      obtain ⟨a8, e9, hF⟩ := bind_out hF
      obtain ⟨x5, h6, e7, hF⟩ := bnd_out hF
      refine ab_callVv X S e9 (c_X2_begin l D cA sz e7) rfl (by decide) mi_X2_begin lm_X6_141 li_yX2_begin ls_yX2_begin (As := []) (rest := []) rfl ⟨by decide, by decide⟩ ⟨by decide, by decide⟩ hl.1 rfl (by simp [ab_cat, ab_cI, ab_cJ, ab_cD, ab_cF]) dX6_blend_47 (fun H1 locs1 S => ?_)
      refine ab_aload_n X dX6_blend_50 rfl (lv_at hl 1 rfl) ?_
      refine ab_getR X S hF fi_6_0 lf_X6_9 dX6_blend_51 (fun x10 hF => ?_)
      refine ab_aload_n X dX6_blend_54 rfl (lv_at hl 1 rfl) ?_
      refine ab_getR X S hF fi_6_0 lf_X6_9 dX6_blend_55 (fun x11 hF => ?_)
      refine lv_dconst1 X.1 X.2.1 dX6_blend_58 ?_
      refine lv_ldc2d (v := 4611686018427387904) X.1 X.2.1 X.2.2.2.1 (X.2.2.2.2.1 _ ld_X6_152) dX6_blend_59 ?_
      refine lv_dload_n X.1 X.2.1 dX6_blend_62 rfl (lv_at hl 3 rfl) ?_
      obtain ⟨x12, ev, ne, hF⟩ := ab_fopx hF
      refine lv_dmul X.1 X.2.1 dX6_blend_63 ne ?_
      rw [ev]
      obtain ⟨x13, ev, ne, hF⟩ := ab_fopx hF
      refine lv_dadd X.1 X.2.1 dX6_blend_64 ne ?_
      rw [ev]
      refine ab_aload_n X dX6_blend_65 rfl (lv_at hl 1 rfl) ?_
      refine ab_getR X S hF fi_6_0 lf_X6_9 dX6_blend_66 (fun x14 hF => ?_)
      refine ab_aload_n X dX6_blend_69 rfl (lv_at hl 1 rfl) ?_
      refine ab_getR X S hF fi_6_6 lf_X6_20 dX6_blend_70 (fun x15 hF => ?_)
      refine lv_iload_n X.1 X.2.1 dX6_blend_73 rfl (lv_at hl 2 rfl) ?_
      obtain ⟨a19, e20, hF⟩ := bind_out hF
      obtain ⟨x16, h17, e18, hF⟩ := bnd_out hF
      refine ab_callVd X S e20 (c_X2_read l D cA sz e18) rfl (by decide) mi_X2_read lm_X6_123 li_yX2_read ls_yX2_read (As := [va_rf x15, .int p0]) (rest := [.double x13, va_rf x11, va_rf x10]) rfl ⟨by decide, by decide⟩ ⟨by decide, by decide⟩ hl.1 rfl (by simp [ab_cat, ab_cI, ab_cJ, ab_cD, ab_cF]) dX6_blend_74 (fun H1 locs1 S => ?_)
      obtain ⟨a24, e25, hF⟩ := bind_out hF
      obtain ⟨x21, h22, e23, hF⟩ := bnd_out hF
      refine ab_callVd X S e25 (c_X2_product l D cA sz e23) rfl (by decide) mi_X2_product lm_X6_119 li_yX2_product ls_yX2_product (As := [.double x13, .double x16]) (rest := [va_rf x10]) rfl ⟨by decide, by decide⟩ ⟨by decide, by decide⟩ hl.1 rfl (by simp [ab_cat, ab_cI, ab_cJ, ab_cD, ab_cF]) dX6_blend_77 (fun H1 locs1 S => ?_)
      refine ab_aload_n X dX6_blend_80 rfl (lv_at hl 1 rfl) ?_
      refine ab_getR X S hF fi_6_0 lf_X6_9 dX6_blend_81 (fun x26 hF => ?_)
      refine lv_dload_n X.1 X.2.1 dX6_blend_84 rfl (lv_at hl 3 rfl) ?_
      refine ab_aload_n X dX6_blend_85 rfl (lv_at hl 1 rfl) ?_
      refine ab_getD X S hF fi_6_4 lf_X6_52 dX6_blend_86 (fun x27 hF => ?_)
      obtain ⟨x28, ev, ne, hF⟩ := ab_fopx hF
      refine lv_dmul X.1 X.2.1 dX6_blend_89 ne ?_
      rw [ev]
      refine ab_aload_n X dX6_blend_90 rfl (lv_at hl 1 rfl) ?_
      refine ab_getR X S hF fi_6_0 lf_X6_9 dX6_blend_91 (fun x29 hF => ?_)
      refine ab_aload_n X dX6_blend_94 rfl (lv_at hl 1 rfl) ?_
      refine ab_getR X S hF fi_6_9 lf_X6_30 dX6_blend_95 (fun x30 hF => ?_)
      refine lv_iconst (v := 0) X.1 X.2.1 dX6_blend_98 (by decide) ?_
      refine ab_aldR X S hF rfl (by decide) dX6_blend_99 (fun x31 hF => ?_)
      refine lv_iload_n X.1 X.2.1 dX6_blend_100 rfl (lv_at hl 2 rfl) ?_
      obtain ⟨a35, e36, hF⟩ := bind_out hF
      obtain ⟨x32, h33, e34, hF⟩ := bnd_out hF
      refine ab_callVd X S e36 (c_X2_read l D cA sz e34) rfl (by decide) mi_X2_read lm_X6_123 li_yX2_read ls_yX2_read (As := [va_rf x31, .int p0]) (rest := [.double x28, va_rf x26, .double x21, va_rf x10]) rfl ⟨by decide, by decide⟩ ⟨by decide, by decide⟩ hl.1 rfl (by simp [ab_cat, ab_cI, ab_cJ, ab_cD, ab_cF]) dX6_blend_101 (fun H1 locs1 S => ?_)
      obtain ⟨a40, e41, hF⟩ := bind_out hF
      obtain ⟨x37, h38, e39, hF⟩ := bnd_out hF
      refine ab_callVd X S e41 (c_X2_product l D cA sz e39) rfl (by decide) mi_X2_product lm_X6_119 li_yX2_product ls_yX2_product (As := [.double x28, .double x32]) (rest := [.double x21, va_rf x10]) rfl ⟨by decide, by decide⟩ ⟨by decide, by decide⟩ hl.1 rfl (by simp [ab_cat, ab_cI, ab_cJ, ab_cD, ab_cF]) dX6_blend_104 (fun H1 locs1 S => ?_)
      obtain ⟨a45, e46, hF⟩ := bind_out hF
      obtain ⟨x42, h43, e44, hF⟩ := bnd_out hF
      refine ab_callVd X S e46 (c_X2_sum l D cA sz e44) rfl (by decide) mi_X2_sum lm_X6_127 li_yX2_sum ls_yX2_sum (As := [.double x21, .double x37]) (rest := []) rfl ⟨by decide, by decide⟩ ⟨by decide, by decide⟩ hl.1 rfl (by simp [ab_cat, ab_cI, ab_cJ, ab_cD, ab_cF]) dX6_blend_107 (fun H1 locs1 S => ?_)
      refine lv_dstore (lv' := [(6, .double x42), (4, .double x3), (0, va_rf (some this)), (1, .int p0), (2, .double p1)]) X.1 X.2.1 dX6_blend_110 hl (by decide) (by simp [ab_cat, ab_cI, ab_cJ, ab_cD, ab_cF]) (fun ls hl => ?_)
      refine ab_aload_n X dX6_blend_112 rfl (lv_at hl 2 rfl) ?_
      refine ab_getR X S hF fi_6_0 lf_X6_9 dX6_blend_113 (fun x47 hF => ?_)
      refine ab_aload_n X dX6_blend_116 rfl (lv_at hl 2 rfl) ?_
      refine ab_getR X S hF fi_6_0 lf_X6_9 dX6_blend_117 (fun x48 hF => ?_)
      refine lv_dconst1 X.1 X.2.1 dX6_blend_120 ?_
      refine lv_ldc2d (v := 4611686018427387904) X.1 X.2.1 X.2.2.2.1 (X.2.2.2.2.1 _ ld_X6_152) dX6_blend_121 ?_
      refine lv_dload X.1 X.2.1 dX6_blend_124 (lv_at hl 1 rfl) ?_
      obtain ⟨x49, ev, ne, hF⟩ := ab_fopx hF
      refine lv_dmul X.1 X.2.1 dX6_blend_126 ne ?_
      rw [ev]
      obtain ⟨x50, ev, ne, hF⟩ := ab_fopx hF
      refine lv_dadd X.1 X.2.1 dX6_blend_127 ne ?_
      rw [ev]
      refine ab_aload_n X dX6_blend_128 rfl (lv_at hl 2 rfl) ?_
      refine ab_getR X S hF fi_6_0 lf_X6_9 dX6_blend_129 (fun x51 hF => ?_)
      refine ab_aload_n X dX6_blend_132 rfl (lv_at hl 2 rfl) ?_
      refine ab_getR X S hF fi_6_8 lf_X6_27 dX6_blend_133 (fun x52 hF => ?_)
      refine lv_iload_n X.1 X.2.1 dX6_blend_136 rfl (lv_at hl 3 rfl) ?_
      obtain ⟨a56, e57, hF⟩ := bind_out hF
      obtain ⟨x53, h54, e55, hF⟩ := bnd_out hF
      refine ab_callVd X S e57 (c_X2_read l D cA sz e55) rfl (by decide) mi_X2_read lm_X6_123 li_yX2_read ls_yX2_read (As := [va_rf x52, .int p0]) (rest := [.double x50, va_rf x48, va_rf x47]) rfl ⟨by decide, by decide⟩ ⟨by decide, by decide⟩ hl.1 rfl (by simp [ab_cat, ab_cI, ab_cJ, ab_cD, ab_cF]) dX6_blend_137 (fun H1 locs1 S => ?_)
      obtain ⟨a61, e62, hF⟩ := bind_out hF
      obtain ⟨x58, h59, e60, hF⟩ := bnd_out hF
      refine ab_callVd X S e62 (c_X2_product l D cA sz e60) rfl (by decide) mi_X2_product lm_X6_119 li_yX2_product ls_yX2_product (As := [.double x50, .double x53]) (rest := [va_rf x47]) rfl ⟨by decide, by decide⟩ ⟨by decide, by decide⟩ hl.1 rfl (by simp [ab_cat, ab_cI, ab_cJ, ab_cD, ab_cF]) dX6_blend_140 (fun H1 locs1 S => ?_)
      refine ab_aload_n X dX6_blend_143 rfl (lv_at hl 2 rfl) ?_
      refine ab_getR X S hF fi_6_0 lf_X6_9 dX6_blend_144 (fun x63 hF => ?_)
      refine lv_dload X.1 X.2.1 dX6_blend_147 (lv_at hl 1 rfl) ?_
      refine ab_aload_n X dX6_blend_149 rfl (lv_at hl 2 rfl) ?_
      refine ab_getD X S hF fi_6_4 lf_X6_52 dX6_blend_150 (fun x64 hF => ?_)
      obtain ⟨x65, ev, ne, hF⟩ := ab_fopx hF
      refine lv_dmul X.1 X.2.1 dX6_blend_153 ne ?_
      rw [ev]
      refine ab_aload_n X dX6_blend_154 rfl (lv_at hl 2 rfl) ?_
      refine ab_getR X S hF fi_6_0 lf_X6_9 dX6_blend_155 (fun x66 hF => ?_)
      refine ab_aload_n X dX6_blend_158 rfl (lv_at hl 2 rfl) ?_
      refine ab_getR X S hF fi_6_11 lf_X6_37 dX6_blend_159 (fun x67 hF => ?_)
      refine lv_iload_n X.1 X.2.1 dX6_blend_162 rfl (lv_at hl 3 rfl) ?_
      obtain ⟨a71, e72, hF⟩ := bind_out hF
      obtain ⟨x68, h69, e70, hF⟩ := bnd_out hF
      refine ab_callVd X S e72 (c_X2_read l D cA sz e70) rfl (by decide) mi_X2_read lm_X6_123 li_yX2_read ls_yX2_read (As := [va_rf x67, .int p0]) (rest := [.double x65, va_rf x63, .double x58, va_rf x47]) rfl ⟨by decide, by decide⟩ ⟨by decide, by decide⟩ hl.1 rfl (by simp [ab_cat, ab_cI, ab_cJ, ab_cD, ab_cF]) dX6_blend_163 (fun H1 locs1 S => ?_)
      obtain ⟨a76, e77, hF⟩ := bind_out hF
      obtain ⟨x73, h74, e75, hF⟩ := bnd_out hF
      refine ab_callVd X S e77 (c_X2_product l D cA sz e75) rfl (by decide) mi_X2_product lm_X6_119 li_yX2_product ls_yX2_product (As := [.double x65, .double x68]) (rest := [.double x58, va_rf x47]) rfl ⟨by decide, by decide⟩ ⟨by decide, by decide⟩ hl.1 rfl (by simp [ab_cat, ab_cI, ab_cJ, ab_cD, ab_cF]) dX6_blend_166 (fun H1 locs1 S => ?_)
      obtain ⟨a81, e82, hF⟩ := bind_out hF
      obtain ⟨x78, h79, e80, hF⟩ := bnd_out hF
      refine ab_callVd X S e82 (c_X2_difference l D cA sz e80) rfl (by decide) mi_X2_difference lm_X6_154 li_yX2_difference ls_yX2_difference (As := [.double x58, .double x73]) (rest := []) rfl ⟨by decide, by decide⟩ ⟨by decide, by decide⟩ hl.1 rfl (by simp [ab_cat, ab_cI, ab_cJ, ab_cD, ab_cF]) dX6_blend_169 (fun H1 locs1 S => ?_)
      refine lv_dstore (lv' := [(8, .double x78), (6, .double x42), (4, .double x3), (0, va_rf (some this)), (1, .int p0), (2, .double p1)]) X.1 X.2.1 dX6_blend_172 hl (by decide) (by simp [ab_cat, ab_cI, ab_cJ, ab_cD, ab_cF]) (fun ls hl => ?_)
      refine ab_aload_n X dX6_blend_174 rfl (lv_at hl 3 rfl) ?_
      refine ab_getR X S hF fi_6_0 lf_X6_9 dX6_blend_175 (fun x83 hF => ?_)
      refine ab_aload_n X dX6_blend_178 rfl (lv_at hl 3 rfl) ?_
      refine ab_getR X S hF fi_6_0 lf_X6_9 dX6_blend_179 (fun x84 hF => ?_)
      refine lv_dload X.1 X.2.1 dX6_blend_182 (lv_at hl 2 rfl) ?_
      refine lv_dload X.1 X.2.1 dX6_blend_184 (lv_at hl 2 rfl) ?_
      obtain ⟨x85, ev, ne, hF⟩ := ab_fopx hF
      refine lv_dmul X.1 X.2.1 dX6_blend_186 ne ?_
      rw [ev]
      refine lv_dload X.1 X.2.1 dX6_blend_187 (lv_at hl 1 rfl) ?_
      obtain ⟨a89, e90, hF⟩ := bind_out hF
      obtain ⟨x86, h87, e88, hF⟩ := bnd_out hF
      refine ab_callVd X S e90 (c_X2_product l D cA sz e88) rfl (by decide) mi_X2_product lm_X6_119 li_yX2_product ls_yX2_product (As := [.double x85, .double x42]) (rest := [va_rf x83]) rfl ⟨by decide, by decide⟩ ⟨by decide, by decide⟩ hl.1 rfl (by simp [ab_cat, ab_cI, ab_cJ, ab_cD, ab_cF]) dX6_blend_189 (fun H1 locs1 S => ?_)
      refine ab_aload_n X dX6_blend_192 rfl (lv_at hl 3 rfl) ?_
      refine ab_getR X S hF fi_6_0 lf_X6_9 dX6_blend_193 (fun x91 hF => ?_)
      refine lv_dload_n X.1 X.2.1 dX6_blend_196 rfl (lv_at hl 5 rfl) ?_
      refine lv_dload_n X.1 X.2.1 dX6_blend_197 rfl (lv_at hl 5 rfl) ?_
      obtain ⟨x92, ev, ne, hF⟩ := ab_fopx hF
      refine lv_dmul X.1 X.2.1 dX6_blend_198 ne ?_
      rw [ev]
      refine lv_dload X.1 X.2.1 dX6_blend_199 (lv_at hl 0 rfl) ?_
      obtain ⟨a96, e97, hF⟩ := bind_out hF
      obtain ⟨x93, h94, e95, hF⟩ := bnd_out hF
      refine ab_callVd X S e97 (c_X2_product l D cA sz e95) rfl (by decide) mi_X2_product lm_X6_119 li_yX2_product ls_yX2_product (As := [.double x92, .double x78]) (rest := [.double x86, va_rf x83]) rfl ⟨by decide, by decide⟩ ⟨by decide, by decide⟩ hl.1 rfl (by simp [ab_cat, ab_cI, ab_cJ, ab_cD, ab_cF]) dX6_blend_201 (fun H1 locs1 S => ?_)
      obtain ⟨a101, e102, hF⟩ := bind_out hF
      obtain ⟨x98, h99, e100, hF⟩ := bnd_out hF
      refine ab_callVd X S e102 (c_X2_sum l D cA sz e100) rfl (by decide) mi_X2_sum lm_X6_127 li_yX2_sum ls_yX2_sum (As := [.double x86, .double x93]) (rest := []) rfl ⟨by decide, by decide⟩ ⟨by decide, by decide⟩ hl.1 rfl (by simp [ab_cat, ab_cI, ab_cJ, ab_cD, ab_cF]) dX6_blend_204 (fun H1 locs1 S => ?_)
      refine lv_dstore (lv' := [(10, .double x98), (8, .double x78), (6, .double x42), (4, .double x3), (0, va_rf (some this)), (1, .int p0), (2, .double p1)]) X.1 X.2.1 dX6_blend_207 hl (by decide) (by simp [ab_cat, ab_cI, ab_cJ, ab_cD, ab_cF]) (fun ls hl => ?_)
      refine ab_aload_n X dX6_blend_209 rfl (lv_at hl 4 rfl) ?_
      refine ab_getR X S hF fi_6_7 lf_X6_24 dX6_blend_210 (fun x103 hF => ?_)
      refine lv_iload_n X.1 X.2.1 dX6_blend_213 rfl (lv_at hl 5 rfl) ?_
      refine lv_dload X.1 X.2.1 dX6_blend_214 (lv_at hl 0 rfl) ?_
      refine ab_aload_n X dX6_blend_216 rfl (lv_at hl 4 rfl) ?_
      refine ab_getR X S hF fi_6_0 lf_X6_9 dX6_blend_217 (fun x104 hF => ?_)
      refine ab_getI X S hF fi_2_1 lf_X6_130 dX6_blend_220 (fun x105 hF => ?_)
      refine ab_aload_n X dX6_blend_223 rfl (lv_at hl 4 rfl) ?_
      refine ab_getR X S hF fi_6_1 lf_X6_40 dX6_blend_224 (fun x106 hF => ?_)
      refine lv_iload_n X.1 X.2.1 dX6_blend_227 rfl (lv_at hl 5 rfl) ?_
      obtain ⟨a110, e111, hF⟩ := bind_out hF
      obtain ⟨x107, h108, e109, hF⟩ := bnd_out hF
      refine ab_callVi X S e111 (c_X1_isNarrow l D cA sz e109) rfl (by decide) mi_X1_isNarrow lm_X6_134 li_yX1_isNarrow ls_yX1_isNarrow (As := [.int p0]) (rest := [.int x105, .double x98, .int p0, va_rf x103]) rfl ⟨by decide, by decide⟩ ⟨by decide, by decide⟩ hl.1 rfl (by simp [ab_cat, ab_cI, ab_cJ, ab_cD, ab_cF]) dX6_blend_228 (fun H1 locs1 S => ?_)
      obtain ⟨a115, e116, hF⟩ := bind_out hF
      obtain ⟨x112, h113, e114, hF⟩ := bnd_out hF
      refine ab_callVv X S e116 (c_X3_put l D cA sz e114) rfl (by decide) mi_X3_put lm_X6_137 li_yX3_put ls_yX3_put (As := [.int p0, .double x98, .int x105, .int x107]) (rest := []) rfl ⟨by decide, by decide⟩ ⟨by decide, by decide⟩ hl.1 rfl (by simp [ab_cat, ab_cI, ab_cJ, ab_cD, ab_cF]) dX6_blend_231 (fun H1 locs1 S => ?_)
      exact ab_vret X S hr hF dX6_blend_234
    · have hF := ab_neg (fun q => q c2) hF
      refine ab_aload_n X dX6_blend_25 rfl (lv_at hl 0 rfl) ?_
      refine ab_getR X S hF fi_6_7 lf_X6_24 dX6_blend_26 (fun x117 hF => ?_)
      refine lv_iload_n X.1 X.2.1 dX6_blend_29 rfl (lv_at hl 1 rfl) ?_
      refine ab_aload_n X dX6_blend_30 rfl (lv_at hl 0 rfl) ?_
      refine ab_getR X S hF fi_6_8 lf_X6_27 dX6_blend_31 (fun x118 hF => ?_)
      obtain ⟨a122, e123, hF⟩ := bind_out hF
      obtain ⟨x119, h120, e121, hF⟩ := bnd_out hF
      refine ab_callVv X S e123 (c_X3_copyOne l D cA sz e121) rfl (by decide) mi_X3_copyOne lm_X6_182 li_yX3_copyOne ls_yX3_copyOne (As := [.int p0, va_rf x118]) (rest := []) rfl ⟨by decide, by decide⟩ ⟨by decide, by decide⟩ hl.1 rfl (by simp [ab_cat, ab_cI, ab_cJ, ab_cD, ab_cF]) dX6_blend_34 (fun H1 locs1 S => ?_)
      exact ab_vret X S hr hF dX6_blend_37
  · have hF := ab_neg (fun q => q c1) hF
    refine ab_aload_n X dX6_blend_6 rfl (lv_at hl 0 rfl) ?_
    refine ab_getR X S hF fi_6_7 lf_X6_24 dX6_blend_7 (fun x124 hF => ?_)
    refine lv_iload_n X.1 X.2.1 dX6_blend_10 rfl (lv_at hl 1 rfl) ?_
    refine ab_aload_n X dX6_blend_11 rfl (lv_at hl 0 rfl) ?_
    refine ab_getR X S hF fi_6_6 lf_X6_20 dX6_blend_12 (fun x125 hF => ?_)
    obtain ⟨a129, e130, hF⟩ := bind_out hF
    obtain ⟨x126, h127, e128, hF⟩ := bnd_out hF
    refine ab_callVv X S e130 (c_X3_copyOne l D cA sz e128) rfl (by decide) mi_X3_copyOne lm_X6_182 li_yX3_copyOne ls_yX3_copyOne (As := [.int p0, va_rf x125]) (rest := []) rfl ⟨by decide, by decide⟩ ⟨by decide, by decide⟩ hl.1 rfl (by simp [ab_cat, ab_cI, ab_cJ, ab_cD, ab_cF]) dX6_blend_15 (fun H1 locs1 S => ?_)
    exact ab_vret X S hr hF dX6_blend_18
def f_X6_blendAll_2  : Nat → Option Nat → UInt64 → Int32 → Hp → Option (Unit × Hp)
  | 0, _, _, _, _ => none
  | n + 1, v0, v1, v3, h => (getR h v0 6 1).bind fun x1 =>
    (getI h x1 1 1).bind fun x2 =>
    if x2 ≤ v3 then
      some ((), h)
    else
      (ab_ck h v0 (6, 0)).bind fun a7 =>
      bnd (f_X6_blend a7 v3 v1 h) fun _ h5 =>
      f_X6_blendAll_2 n v0 v1 (v3 + 1) h5
set_option maxHeartbeats 4000000 in
set_option maxRecDepth 100000 in
theorem w_X6_blendAll_2 {p : Program} {l : Launch} {e : Env} {s : State} {m : MethodId} {args : Array Value} {below : List Frame} {meth : Method} {c : Code} {D : va_G} {cA : Nat → ClassId} {sz : Nat}  {hh : Hp}  (X : ab_X p s m args meth c cX6_blendAll 4 RX6 D cA sz) (hr : meth.sig.returnType = none)  (n : Nat) : ∀ (v0 : Option Nat) (v1 : UInt64) (v3 : Int32) (h : Hp) (H : Heap) (locs : List Loc) (ls : Array Slot), ab_H D cA sz h s H locs → lv_has ls 4 [(0, va_rf v0), (1, .double v1), (3, .int v3)] → f_X6_blendAll_2 n v0 v1 v3 h = some ((), hh) → W p l e (ab_rm 2 0 0) s m args below meth c H locs 0 0 (MQ below (ab_Q D cA sz none hh) args s 0 0 (fun q => sz ≤ q)) (F0 m 2 ls []) := by
  induction n with
  | zero => intro v0 v1 v3 h H locs ls S hl hF; cases hF
  | succ n ih =>
    intro v0 v1 v3 h H locs ls S hl hF
    rw [f_X6_blendAll_2] at hF
    refine lv_iload_n X.1 X.2.1 dX6_blendAll_2 rfl (lv_at hl 2 rfl) ?_
    refine ab_aload_n X dX6_blendAll_3 rfl (lv_at hl 0 rfl) ?_
    refine ab_getR X S hF fi_6_1 lf_X6_40 dX6_blendAll_4 (fun x1 hF => ?_)
    refine ab_getI X S hF fi_1_1 lf_X6_95 dX6_blendAll_7 (fun x2 hF => ?_)
    refine lv_icmp_ge (tgt := 25) X.1 X.2.1 dX6_blendAll_10 (by decide) (fun c3 => ?_) (fun c3 => ?_)
    · have hF := ab_pos c3 hF
      exact ab_vret X S hr hF dX6_blendAll_25
    · have hF := ab_neg c3 hF
      refine ab_aload_n X dX6_blendAll_13 rfl (lv_at hl 0 rfl) ?_
      refine lv_iload_n X.1 X.2.1 dX6_blendAll_14 rfl (lv_at hl 2 rfl) ?_
      refine lv_dload_n X.1 X.2.1 dX6_blendAll_15 rfl (lv_at hl 1 rfl) ?_
      obtain ⟨a7, e8, hF⟩ := bind_out hF
      obtain ⟨x4, h5, e6, hF⟩ := bnd_out hF
      refine ab_callVv X S e8 (c_X6_blend l D cA sz e6) rfl (by decide) mi_X6_blend lm_X6_186 li_yX6_blend ls_yX6_blend (As := [.int v3, .double v1]) (rest := []) rfl ⟨by decide, by decide⟩ ⟨by decide, by decide⟩ hl.1 rfl (by simp [ab_cat, ab_cI, ab_cJ, ab_cD, ab_cF]) dX6_blendAll_16 (fun H1 locs1 S => ?_)
      refine lv_iinc (v := v3 + 1) (lv' := [(3, .int (v3 + 1)), (0, va_rf v0), (1, .double v1)]) X.1 X.2.1 dX6_blendAll_19 hl (k := 2) rfl (by rfl) (by decide) (by simp [ab_cat, ab_cI, ab_cJ, ab_cD, ab_cF]) (fun ls hl => ?_)
      refine lv_goto (tgt := 2) X.1 X.2.1 dX6_blendAll_22 (by decide) ?_
      exact ih _ _ _ _ _ _ _ S (lv_sub hl [1, 2, 0] rfl) hF
def f_X6_blendAll (this : Nat) (p0 : UInt64) (h : Hp) : Option (Unit × Hp) :=
  f_X6_blendAll_2 fuelN (some this) p0 0 h
theorem mi_X6_blendAll : ab_MI yX6_blendAll cX6_blendAll 4 none 1 := ⟨lc_yX6_blendAll, lz_RX6, by decide, by decide, by decide +kernel⟩
set_option maxHeartbeats 4000000 in
set_option maxRecDepth 100000 in
theorem c_X6_blendAll (l : Launch) (D : va_G) (cA : Nat → ClassId) (sz : Nat) {this : Nat} {p0 : UInt64} {h hh : Hp}  (hF : f_X6_blendAll this p0 h = some ((), hh)) : ab_C l D cA sz yX6_blendAll cX6_blendAll 4 none 2 0 0 [.ref this, .double p0] h none hh := by
  refine Met.ofW (cc := cX6_blendAll) (maxL := 4) (ret := none) (by decide) rfl ?_
  intro p e s m args below meth c s₁ B hml hv
  obtain ⟨rfl, hT, hR⟩ := hv
  have X : ab_X p s m _ meth c cX6_blendAll 4 RX6 D cA sz := (ab_enter B hml hT hR).1
  have S := (ab_enter B hml hT hR).2
  have hr := B.returns
  obtain ⟨ls, hls, hl⟩ := ab_entry m [.ref this, .double p0] 4 (lv := [(0, .ref this), (1, .double p0)]) (by simp [lg_sl, ab_cat, ab_cI, ab_cJ, ab_cD, ab_cF, ab_cA]) (by simp [lv_args, ab_cat, ab_cI, ab_cJ, ab_cD, ab_cF, ab_cA])
  rw [hls]
  have hl : lv_has ls 4 [(0, va_rf (some this)), (1, .double p0)] := hl
  unfold f_X6_blendAll at hF
  show W p l e (ab_rm 2 0 0) s m _ below meth c s.heap [] 0 0 _ _
  refine lv_iconst (v := 0) X.1 X.2.1 dX6_blendAll_0 (by decide) ?_
  refine lv_istore_n (i := 3) (lv' := [(3, .int 0), (0, va_rf (some this)), (1, .double p0)]) X.1 X.2.1 dX6_blendAll_1 rfl hl (by decide) (by simp [ab_cat, ab_cI, ab_cJ, ab_cD, ab_cF]) (fun ls hl => ?_)
  exact w_X6_blendAll_2 X hr  fuelN _ _ _ _ _ _ _ S (lv_sub hl [1, 2, 0] rfl) hF
def f_X6_timeAt (this : Nat) (p0 : UInt64) (h : Hp) : Option (UInt64 × Hp) :=
  (getD h (some this) 6 3).bind fun x1 =>
  (getD h (some this) 6 4).bind fun x2 =>
  (fop (FP.dmul p0 x2)).bind fun x3 =>
  (fop (FP.dadd x1 x3)).bind fun x4 =>
  some (x4, h)
theorem mi_X6_timeAt : ab_MI yX6_timeAt cX6_timeAt 3 (some .double) 1 := ⟨lc_yX6_timeAt, lz_RX6, by decide, by decide, by decide +kernel⟩
set_option maxHeartbeats 4000000 in
set_option maxRecDepth 100000 in
theorem c_X6_timeAt (l : Launch) (D : va_G) (cA : Nat → ClassId) (sz : Nat) {this : Nat} {p0 : UInt64} {h hh : Hp} {rr : UInt64} (hF : f_X6_timeAt this p0 h = some (rr, hh)) : ab_C l D cA sz yX6_timeAt cX6_timeAt 3 (some .double) 0 0 0 [.ref this, .double p0] h (some (.double rr)) hh := by
  refine Met.ofW (cc := cX6_timeAt) (maxL := 3) (ret := (some .double)) (by decide) rfl ?_
  intro p e s m args below meth c s₁ B hml hv
  obtain ⟨rfl, hT, hR⟩ := hv
  have X : ab_X p s m _ meth c cX6_timeAt 3 RX6 D cA sz := (ab_enter B hml hT hR).1
  have S := (ab_enter B hml hT hR).2
  have hr := B.returns
  obtain ⟨ls, hls, hl⟩ := ab_entry m [.ref this, .double p0] 3 (lv := [(0, .ref this), (1, .double p0)]) (by simp [lg_sl, ab_cat, ab_cI, ab_cJ, ab_cD, ab_cF, ab_cA]) (by simp [lv_args, ab_cat, ab_cI, ab_cJ, ab_cD, ab_cF, ab_cA])
  rw [hls]
  have hl : lv_has ls 3 [(0, va_rf (some this)), (1, .double p0)] := hl
  unfold f_X6_timeAt at hF
  show W p l e (ab_rm 0 0 0) s m _ below meth c s.heap [] 0 0 _ _
  refine ab_aload_n X dX6_timeAt_0 rfl (lv_at hl 0 rfl) ?_
  refine ab_getD X S hF fi_6_3 lf_X6_48 dX6_timeAt_1 (fun x1 hF => ?_)
  refine lv_dload_n X.1 X.2.1 dX6_timeAt_4 rfl (lv_at hl 1 rfl) ?_
  refine ab_aload_n X dX6_timeAt_5 rfl (lv_at hl 0 rfl) ?_
  refine ab_getD X S hF fi_6_4 lf_X6_52 dX6_timeAt_6 (fun x2 hF => ?_)
  obtain ⟨x3, ev, ne, hF⟩ := ab_fopx hF
  refine lv_dmul X.1 X.2.1 dX6_timeAt_9 ne ?_
  rw [ev]
  obtain ⟨x4, ev, ne, hF⟩ := ab_fopx hF
  refine lv_dadd X.1 X.2.1 dX6_timeAt_10 ne ?_
  rw [ev]
  exact ab_dret X S hr hF dX6_timeAt_11
def f_X7_bitsOfSize_150 (k_110 : Option Nat → UInt64 → Int64 → Int32 → Hp → Option (Int64 × Hp)) (v0 : Option Nat) (v3 : UInt64) (v5 : Int64) (v7 : Int32) (h : Hp) : Option (Int64 × Hp) :=
  k_110 v0 v3 v5 (v7 + (-1)) h
set_option maxHeartbeats 4000000 in
set_option maxRecDepth 100000 in
theorem w_X7_bitsOfSize_150 {p : Program} {l : Launch} {e : Env} {s : State} {m : MethodId} {args : Array Value} {below : List Frame} {meth : Method} {c : Code} {D : va_G} {cA : Nat → ClassId} {sz : Nat} {rr : Int64} {hh : Hp} {k_110 : Option Nat → UInt64 → Int64 → Int32 → Hp → Option (Int64 × Hp)} (X : ab_X p s m args meth c cX7_bitsOfSize 8 RX7 D cA sz) (hr : meth.sig.returnType = (some .long)) (hk_110 : ∀ (v0 : Option Nat) (v3 : UInt64) (v5 : Int64) (v7 : Int32) (h : Hp) (H : Heap) (locs : List Loc) (ls : Array Slot), ab_H D cA sz h s H locs → lv_has ls 8 [(0, va_rf v0), (3, .double v3), (5, .long v5), (7, .int v7)] → k_110 v0 v3 v5 v7 h = some (rr, hh) → W p l e (ab_rm 0 0 0) s m args below meth c H locs 0 0 (MQ below (ab_Q D cA sz (some (.long rr)) hh) args s 0 0 (fun q => sz ≤ q)) (F0 m 110 ls [])) {H : Heap} {locs : List Loc} {ls : Array Slot} {v0 : Option Nat} {v3 : UInt64} {v5 : Int64} {v7 : Int32} {h : Hp} (S : ab_H D cA sz h s H locs) (hl : lv_has ls 8 [(0, va_rf v0), (3, .double v3), (5, .long v5), (7, .int v7)]) (hF : f_X7_bitsOfSize_150 k_110 v0 v3 v5 v7 h = some (rr, hh)) : W p l e (ab_rm 0 0 0) s m args below meth c H locs 0 0 (MQ below (ab_Q D cA sz (some (.long rr)) hh) args s 0 0 (fun q => sz ≤ q)) (F0 m 150 ls []) := by
  unfold f_X7_bitsOfSize_150 at hF
  refine lv_iinc (v := v7 + (-1)) (lv' := [(7, .int (v7 + (-1))), (0, va_rf v0), (3, .double v3), (5, .long v5)]) X.1 X.2.1 dX7_bitsOfSize_150 hl (k := 3) rfl (by rfl) (by decide) (by simp [ab_cat, ab_cI, ab_cJ, ab_cD, ab_cF]) (fun ls hl => ?_)
  refine lv_goto (tgt := 110) X.1 X.2.1 dX7_bitsOfSize_153 (by decide) ?_
  exact hk_110 _ _ _ _ _ _ _ _ S (lv_sub hl [1, 2, 3, 0] rfl) hF
def f_X7_bitsOfSize_110  : Nat → Option Nat → UInt64 → Int64 → Int32 → Hp → Option (Int64 × Hp)
  | 0, _, _, _, _, _ => none
  | n + 1, v0, v3, v5, v7, h => if v7 < 0 then
      (fop (FP.dmul v3 4841369599423283200)).bind fun x2 =>
      some ((v5 <<< ((52 : Int32).toInt64 &&& 63)) + ((FP.d2l x2) - (4503599627370496)), h)
    else
      (getR h v0 7 0).bind fun x3 =>
      (aldD h x3 v7).bind fun x4 =>
      (fop (FP.dmul v3 x4)).bind fun x5 =>
      if 0 ≤ (Op.cmpValue (FP.dcmp x5 4611686018427387904) CmpOp.g) then
        f_X7_bitsOfSize_150 (f_X7_bitsOfSize_110 n) v0 v3 v5 v7 h
      else
        (getR h v0 7 0).bind fun x7 =>
        (aldD h x7 v7).bind fun x8 =>
        (fop (FP.dmul v3 x8)).bind fun x9 =>
        f_X7_bitsOfSize_150 (f_X7_bitsOfSize_110 n) v0 x9 (v5 - (1 <<< (v7.toInt64 &&& 63))) v7 h
set_option maxHeartbeats 4000000 in
set_option maxRecDepth 100000 in
theorem w_X7_bitsOfSize_110 {p : Program} {l : Launch} {e : Env} {s : State} {m : MethodId} {args : Array Value} {below : List Frame} {meth : Method} {c : Code} {D : va_G} {cA : Nat → ClassId} {sz : Nat} {rr : Int64} {hh : Hp}  (X : ab_X p s m args meth c cX7_bitsOfSize 8 RX7 D cA sz) (hr : meth.sig.returnType = (some .long))  (n : Nat) : ∀ (v0 : Option Nat) (v3 : UInt64) (v5 : Int64) (v7 : Int32) (h : Hp) (H : Heap) (locs : List Loc) (ls : Array Slot), ab_H D cA sz h s H locs → lv_has ls 8 [(0, va_rf v0), (3, .double v3), (5, .long v5), (7, .int v7)] → f_X7_bitsOfSize_110 n v0 v3 v5 v7 h = some (rr, hh) → W p l e (ab_rm 0 0 0) s m args below meth c H locs 0 0 (MQ below (ab_Q D cA sz (some (.long rr)) hh) args s 0 0 (fun q => sz ≤ q)) (F0 m 110 ls []) := by
  induction n with
  | zero => intro v0 v3 v5 v7 h H locs ls S hl hF; cases hF
  | succ n ih =>
    intro v0 v3 v5 v7 h H locs ls S hl hF
    rw [f_X7_bitsOfSize_110] at hF
    refine lv_iload X.1 X.2.1 dX7_bitsOfSize_110 (lv_at hl 3 rfl) ?_
    refine lv_if_lt (tgt := 156) X.1 X.2.1 dX7_bitsOfSize_112 (by decide) (fun c1 => ?_) (fun c1 => ?_)
    · have hF := ab_pos c1 hF
      refine lv_lload X.1 X.2.1 dX7_bitsOfSize_156 (lv_at hl 2 rfl) ?_
      refine lv_bipush (v := 52) X.1 X.2.1 dX7_bitsOfSize_158 (by decide) ?_
      refine lv_lshl (v := v5 <<< ((52 : Int32).toInt64 &&& 63)) X.1 X.2.1 dX7_bitsOfSize_160 rfl ?_
      refine lv_dload_n X.1 X.2.1 dX7_bitsOfSize_161 rfl (lv_at hl 1 rfl) ?_
      refine lv_ldc2d (v := 4841369599423283200) X.1 X.2.1 X.2.2.2.1 (X.2.2.2.2.1 _ ld_X7_47) dX7_bitsOfSize_162 ?_
      obtain ⟨x2, ev, ne, hF⟩ := ab_fopx hF
      refine lv_dmul X.1 X.2.1 dX7_bitsOfSize_165 ne ?_
      rw [ev]
      refine lv_d2l X.1 X.2.1 dX7_bitsOfSize_166 ?_
      refine lv_ldc2 (v := (4503599627370496)) X.1 X.2.1 X.2.2.2.1 (X.2.2.2.2.1 _ ll_X7_49) dX7_bitsOfSize_167 ?_
      refine lv_lsub X.1 X.2.1 dX7_bitsOfSize_170 ?_
      refine lv_ladd X.1 X.2.1 dX7_bitsOfSize_171 ?_
      exact ab_lret X S hr hF dX7_bitsOfSize_172
    · have hF := ab_neg c1 hF
      refine lv_dload_n X.1 X.2.1 dX7_bitsOfSize_115 rfl (lv_at hl 1 rfl) ?_
      refine ab_aload_n X dX7_bitsOfSize_116 rfl (lv_at hl 0 rfl) ?_
      refine ab_getR X S hF fi_7_0 lf_X7_9 dX7_bitsOfSize_117 (fun x3 hF => ?_)
      refine lv_iload X.1 X.2.1 dX7_bitsOfSize_120 (lv_at hl 3 rfl) ?_
      refine ab_aldD X S hF dX7_bitsOfSize_122 (fun x4 hF => ?_)
      obtain ⟨x5, ev, ne, hF⟩ := ab_fopx hF
      refine lv_dmul X.1 X.2.1 dX7_bitsOfSize_123 ne ?_
      rw [ev]
      refine lv_ldc2d (v := 4611686018427387904) X.1 X.2.1 X.2.2.2.1 (X.2.2.2.2.1 _ ld_X7_15) dX7_bitsOfSize_124 ?_
      refine lv_dcmp X.1 X.2.1 dX7_bitsOfSize_127 ?_
      refine lv_if_ge (tgt := 150) X.1 X.2.1 dX7_bitsOfSize_128 (by decide) (fun c6 => ?_) (fun c6 => ?_)
      · have hF := ab_pos c6 hF
        exact w_X7_bitsOfSize_150 X hr ih S (lv_sub hl [0, 1, 2, 3] rfl) hF
      · have hF := ab_neg c6 hF
        refine lv_dload_n X.1 X.2.1 dX7_bitsOfSize_131 rfl (lv_at hl 1 rfl) ?_
        refine ab_aload_n X dX7_bitsOfSize_132 rfl (lv_at hl 0 rfl) ?_
        refine ab_getR X S hF fi_7_0 lf_X7_9 dX7_bitsOfSize_133 (fun x7 hF => ?_)
        refine lv_iload X.1 X.2.1 dX7_bitsOfSize_136 (lv_at hl 3 rfl) ?_
        refine ab_aldD X S hF dX7_bitsOfSize_138 (fun x8 hF => ?_)
        obtain ⟨x9, ev, ne, hF⟩ := ab_fopx hF
        refine lv_dmul X.1 X.2.1 dX7_bitsOfSize_139 ne ?_
        rw [ev]
        refine lv_dstore_n (i := 3) (lv' := [(3, .double x9), (0, va_rf v0), (5, .long v5), (7, .int v7)]) X.1 X.2.1 dX7_bitsOfSize_140 rfl hl (by decide) (by simp [ab_cat, ab_cI, ab_cJ, ab_cD, ab_cF]) (fun ls hl => ?_)
        refine lv_lload X.1 X.2.1 dX7_bitsOfSize_141 (lv_at hl 2 rfl) ?_
        refine lv_lconst (v := 1) X.1 X.2.1 dX7_bitsOfSize_143 (by decide) ?_
        refine lv_iload X.1 X.2.1 dX7_bitsOfSize_144 (lv_at hl 3 rfl) ?_
        refine lv_lshl (v := 1 <<< (v7.toInt64 &&& 63)) X.1 X.2.1 dX7_bitsOfSize_146 rfl ?_
        refine lv_lsub X.1 X.2.1 dX7_bitsOfSize_147 ?_
        refine lv_lstore (lv' := [(5, .long (v5 - (1 <<< (v7.toInt64 &&& 63)))), (3, .double x9), (0, va_rf v0), (7, .int v7)]) X.1 X.2.1 dX7_bitsOfSize_148 hl (by decide) (by simp [ab_cat, ab_cI, ab_cJ, ab_cD, ab_cF]) (fun ls hl => ?_)
        exact w_X7_bitsOfSize_150 X hr ih S (lv_sub hl [2, 1, 0, 3] rfl) hF
def f_X7_bitsOfSize_95 (k_59 : Option Nat → UInt64 → Int64 → Int32 → Hp → Option (Int64 × Hp)) (v0 : Option Nat) (v3 : UInt64) (v5 : Int64) (v7 : Int32) (h : Hp) : Option (Int64 × Hp) :=
  k_59 v0 v3 v5 (v7 + (-1)) h
set_option maxHeartbeats 4000000 in
set_option maxRecDepth 100000 in
theorem w_X7_bitsOfSize_95 {p : Program} {l : Launch} {e : Env} {s : State} {m : MethodId} {args : Array Value} {below : List Frame} {meth : Method} {c : Code} {D : va_G} {cA : Nat → ClassId} {sz : Nat} {rr : Int64} {hh : Hp} {k_59 : Option Nat → UInt64 → Int64 → Int32 → Hp → Option (Int64 × Hp)} (X : ab_X p s m args meth c cX7_bitsOfSize 8 RX7 D cA sz) (hr : meth.sig.returnType = (some .long)) (hk_59 : ∀ (v0 : Option Nat) (v3 : UInt64) (v5 : Int64) (v7 : Int32) (h : Hp) (H : Heap) (locs : List Loc) (ls : Array Slot), ab_H D cA sz h s H locs → lv_has ls 8 [(0, va_rf v0), (3, .double v3), (5, .long v5), (7, .int v7)] → k_59 v0 v3 v5 v7 h = some (rr, hh) → W p l e (ab_rm 0 0 0) s m args below meth c H locs 0 0 (MQ below (ab_Q D cA sz (some (.long rr)) hh) args s 0 0 (fun q => sz ≤ q)) (F0 m 59 ls [])) {H : Heap} {locs : List Loc} {ls : Array Slot} {v0 : Option Nat} {v3 : UInt64} {v5 : Int64} {v7 : Int32} {h : Hp} (S : ab_H D cA sz h s H locs) (hl : lv_has ls 8 [(0, va_rf v0), (3, .double v3), (5, .long v5), (7, .int v7)]) (hF : f_X7_bitsOfSize_95 k_59 v0 v3 v5 v7 h = some (rr, hh)) : W p l e (ab_rm 0 0 0) s m args below meth c H locs 0 0 (MQ below (ab_Q D cA sz (some (.long rr)) hh) args s 0 0 (fun q => sz ≤ q)) (F0 m 95 ls []) := by
  unfold f_X7_bitsOfSize_95 at hF
  refine lv_iinc (v := v7 + (-1)) (lv' := [(7, .int (v7 + (-1))), (0, va_rf v0), (3, .double v3), (5, .long v5)]) X.1 X.2.1 dX7_bitsOfSize_95 hl (k := 3) rfl (by rfl) (by decide) (by simp [ab_cat, ab_cI, ab_cJ, ab_cD, ab_cF]) (fun ls hl => ?_)
  refine lv_goto (tgt := 59) X.1 X.2.1 dX7_bitsOfSize_98 (by decide) ?_
  exact hk_59 _ _ _ _ _ _ _ _ S (lv_sub hl [1, 2, 3, 0] rfl) hF
def f_X7_bitsOfSize_59  : Nat → Option Nat → UInt64 → Int64 → Int32 → Hp → Option (Int64 × Hp)
  | 0, _, _, _, _, _ => none
  | n + 1, v0, v3, v5, v7, h => if v7 < 0 then
      (getR h v0 7 0).bind fun x2 =>
      (alen h x2 10).bind fun x3 =>
      f_X7_bitsOfSize_110 fuelN v0 v3 v5 (x3 - 1) h
    else
      (getR h v0 7 0).bind fun x4 =>
      (aldD h x4 v7).bind fun x5 =>
      if (Op.cmpValue (FP.dcmp v3 x5) CmpOp.l) < 0 then
        f_X7_bitsOfSize_95 (f_X7_bitsOfSize_59 n) v0 v3 v5 v7 h
      else
        (getR h v0 7 0).bind fun x7 =>
        (aldD h x7 v7).bind fun x8 =>
        (fop (FP.ddiv v3 x8)).bind fun x9 =>
        f_X7_bitsOfSize_95 (f_X7_bitsOfSize_59 n) v0 x9 (v5 + (1 <<< (v7.toInt64 &&& 63))) v7 h
set_option maxHeartbeats 4000000 in
set_option maxRecDepth 100000 in
theorem w_X7_bitsOfSize_59 {p : Program} {l : Launch} {e : Env} {s : State} {m : MethodId} {args : Array Value} {below : List Frame} {meth : Method} {c : Code} {D : va_G} {cA : Nat → ClassId} {sz : Nat} {rr : Int64} {hh : Hp}  (X : ab_X p s m args meth c cX7_bitsOfSize 8 RX7 D cA sz) (hr : meth.sig.returnType = (some .long))  (n : Nat) : ∀ (v0 : Option Nat) (v3 : UInt64) (v5 : Int64) (v7 : Int32) (h : Hp) (H : Heap) (locs : List Loc) (ls : Array Slot), ab_H D cA sz h s H locs → lv_has ls 8 [(0, va_rf v0), (3, .double v3), (5, .long v5), (7, .int v7)] → f_X7_bitsOfSize_59 n v0 v3 v5 v7 h = some (rr, hh) → W p l e (ab_rm 0 0 0) s m args below meth c H locs 0 0 (MQ below (ab_Q D cA sz (some (.long rr)) hh) args s 0 0 (fun q => sz ≤ q)) (F0 m 59 ls []) := by
  induction n with
  | zero => intro v0 v3 v5 v7 h H locs ls S hl hF; cases hF
  | succ n ih =>
    intro v0 v3 v5 v7 h H locs ls S hl hF
    rw [f_X7_bitsOfSize_59] at hF
    refine lv_iload X.1 X.2.1 dX7_bitsOfSize_59 (lv_at hl 3 rfl) ?_
    refine lv_if_lt (tgt := 101) X.1 X.2.1 dX7_bitsOfSize_61 (by decide) (fun c1 => ?_) (fun c1 => ?_)
    · have hF := ab_pos c1 hF
      refine ab_aload_n X dX7_bitsOfSize_101 rfl (lv_at hl 0 rfl) ?_
      refine ab_getR X S hF fi_7_0 lf_X7_9 dX7_bitsOfSize_102 (fun x2 hF => ?_)
      refine ab_alen X S hF rfl (by decide) dX7_bitsOfSize_105 (fun x3 hF => ?_)
      refine lv_iconst (v := 1) X.1 X.2.1 dX7_bitsOfSize_106 (by decide) ?_
      refine lv_isub X.1 X.2.1 dX7_bitsOfSize_107 ?_
      refine lv_istore (lv' := [(7, .int (x3 - 1)), (0, va_rf v0), (3, .double v3), (5, .long v5)]) X.1 X.2.1 dX7_bitsOfSize_108 hl (by decide) (by simp [ab_cat, ab_cI, ab_cJ, ab_cD, ab_cF]) (fun ls hl => ?_)
      exact w_X7_bitsOfSize_110 X hr  fuelN _ _ _ _ _ _ _ _ S (lv_sub hl [1, 2, 3, 0] rfl) hF
    · have hF := ab_neg c1 hF
      refine lv_dload_n X.1 X.2.1 dX7_bitsOfSize_64 rfl (lv_at hl 1 rfl) ?_
      refine ab_aload_n X dX7_bitsOfSize_65 rfl (lv_at hl 0 rfl) ?_
      refine ab_getR X S hF fi_7_0 lf_X7_9 dX7_bitsOfSize_66 (fun x4 hF => ?_)
      refine lv_iload X.1 X.2.1 dX7_bitsOfSize_69 (lv_at hl 3 rfl) ?_
      refine ab_aldD X S hF dX7_bitsOfSize_71 (fun x5 hF => ?_)
      refine lv_dcmp X.1 X.2.1 dX7_bitsOfSize_72 ?_
      refine lv_if_lt (tgt := 95) X.1 X.2.1 dX7_bitsOfSize_73 (by decide) (fun c6 => ?_) (fun c6 => ?_)
      · have hF := ab_pos c6 hF
        exact w_X7_bitsOfSize_95 X hr ih S (lv_sub hl [0, 1, 2, 3] rfl) hF
      · have hF := ab_neg c6 hF
        refine lv_dload_n X.1 X.2.1 dX7_bitsOfSize_76 rfl (lv_at hl 1 rfl) ?_
        refine ab_aload_n X dX7_bitsOfSize_77 rfl (lv_at hl 0 rfl) ?_
        refine ab_getR X S hF fi_7_0 lf_X7_9 dX7_bitsOfSize_78 (fun x7 hF => ?_)
        refine lv_iload X.1 X.2.1 dX7_bitsOfSize_81 (lv_at hl 3 rfl) ?_
        refine ab_aldD X S hF dX7_bitsOfSize_83 (fun x8 hF => ?_)
        obtain ⟨x9, ev, ne, hF⟩ := ab_fopx hF
        refine lv_ddiv X.1 X.2.1 dX7_bitsOfSize_84 ne ?_
        rw [ev]
        refine lv_dstore_n (i := 3) (lv' := [(3, .double x9), (0, va_rf v0), (5, .long v5), (7, .int v7)]) X.1 X.2.1 dX7_bitsOfSize_85 rfl hl (by decide) (by simp [ab_cat, ab_cI, ab_cJ, ab_cD, ab_cF]) (fun ls hl => ?_)
        refine lv_lload X.1 X.2.1 dX7_bitsOfSize_86 (lv_at hl 2 rfl) ?_
        refine lv_lconst (v := 1) X.1 X.2.1 dX7_bitsOfSize_88 (by decide) ?_
        refine lv_iload X.1 X.2.1 dX7_bitsOfSize_89 (lv_at hl 3 rfl) ?_
        refine lv_lshl (v := 1 <<< (v7.toInt64 &&& 63)) X.1 X.2.1 dX7_bitsOfSize_91 rfl ?_
        refine lv_ladd X.1 X.2.1 dX7_bitsOfSize_92 ?_
        refine lv_lstore (lv' := [(5, .long (v5 + (1 <<< (v7.toInt64 &&& 63)))), (3, .double x9), (0, va_rf v0), (7, .int v7)]) X.1 X.2.1 dX7_bitsOfSize_93 hl (by decide) (by simp [ab_cat, ab_cI, ab_cJ, ab_cD, ab_cF]) (fun ls hl => ?_)
        exact w_X7_bitsOfSize_95 X hr ih S (lv_sub hl [2, 1, 0, 3] rfl) hF
def f_X7_bitsOfSize (this : Nat) (p0 : UInt64) (h : Hp) : Option (Int64 × Hp) :=
  if (Op.cmpValue (FP.dcmp p0 9218868437227405311) CmpOp.l) ≤ 0 then
    if 0 ≤ (Op.cmpValue (FP.dcmp p0 4503599627370496) CmpOp.g) then
      (getR h (some this) 7 0).bind fun x3 =>
      (alen h x3 10).bind fun x4 =>
      f_X7_bitsOfSize_59 fuelN (some this) p0 (1023) (x4 - 1) h
    else
      (getR h (some this) 7 0).bind fun x5 =>
      (aldD h x5 9).bind fun x6 =>
      (fop (FP.dmul p0 x6)).bind fun x7 =>
      (getR h (some this) 7 0).bind fun x8 =>
      (aldD h x8 9).bind fun x9 =>
      (fop (FP.dmul x7 x9)).bind fun x10 =>
      (fop (FP.dmul x10 4832362400168542208)).bind fun x11 =>
      some (FP.d2l x11, h)
  else
    some ((9218868437227405312), h)
theorem mi_X7_bitsOfSize : ab_MI yX7_bitsOfSize cX7_bitsOfSize 8 (some .long) 1 := ⟨lc_yX7_bitsOfSize, lz_RX7, by decide, by decide, by decide +kernel⟩
set_option maxHeartbeats 4000000 in
set_option maxRecDepth 100000 in
theorem c_X7_bitsOfSize (l : Launch) (D : va_G) (cA : Nat → ClassId) (sz : Nat) {this : Nat} {p0 : UInt64} {h hh : Hp} {rr : Int64} (hF : f_X7_bitsOfSize this p0 h = some (rr, hh)) : ab_C l D cA sz yX7_bitsOfSize cX7_bitsOfSize 8 (some .long) 0 0 0 [.ref this, .double p0] h (some (.long rr)) hh := by
  refine Met.ofW (cc := cX7_bitsOfSize) (maxL := 8) (ret := (some .long)) (by decide) rfl ?_
  intro p e s m args below meth c s₁ B hml hv
  obtain ⟨rfl, hT, hR⟩ := hv
  have X : ab_X p s m _ meth c cX7_bitsOfSize 8 RX7 D cA sz := (ab_enter B hml hT hR).1
  have S := (ab_enter B hml hT hR).2
  have hr := B.returns
  obtain ⟨ls, hls, hl⟩ := ab_entry m [.ref this, .double p0] 8 (lv := [(0, .ref this), (1, .double p0)]) (by simp [lg_sl, ab_cat, ab_cI, ab_cJ, ab_cD, ab_cF, ab_cA]) (by simp [lv_args, ab_cat, ab_cI, ab_cJ, ab_cD, ab_cF, ab_cA])
  rw [hls]
  have hl : lv_has ls 8 [(0, va_rf (some this)), (1, .double p0)] := hl
  unfold f_X7_bitsOfSize at hF
  show W p l e (ab_rm 0 0 0) s m _ below meth c s.heap [] 0 0 _ _
  refine lv_dload_n X.1 X.2.1 dX7_bitsOfSize_0 rfl (lv_at hl 1 rfl) ?_
  refine lv_ldc2d (v := 9218868437227405311) X.1 X.2.1 X.2.2.2.1 (X.2.2.2.2.1 _ ld_X7_37) dX7_bitsOfSize_1 ?_
  refine lv_dcmp X.1 X.2.1 dX7_bitsOfSize_4 ?_
  refine lv_if_le (tgt := 12) X.1 X.2.1 dX7_bitsOfSize_5 (by decide) (fun c1 => ?_) (fun c1 => ?_)
  · have hF := ab_pos c1 hF
    refine lv_dload_n X.1 X.2.1 dX7_bitsOfSize_12 rfl (lv_at hl 1 rfl) ?_
    refine lv_ldc2d (v := 4503599627370496) X.1 X.2.1 X.2.2.2.1 (X.2.2.2.2.1 _ ld_X7_41) dX7_bitsOfSize_13 ?_
    refine lv_dcmp X.1 X.2.1 dX7_bitsOfSize_16 ?_
    refine lv_if_ge (tgt := 43) X.1 X.2.1 dX7_bitsOfSize_17 (by decide) (fun c2 => ?_) (fun c2 => ?_)
    · have hF := ab_pos c2 hF
      refine lv_dload_n X.1 X.2.1 dX7_bitsOfSize_43 rfl (lv_at hl 1 rfl) ?_
      refine lv_dstore_n (i := 3) (lv' := [(3, .double p0), (0, va_rf (some this)), (1, .double p0)]) X.1 X.2.1 dX7_bitsOfSize_44 rfl hl (by decide) (by simp [ab_cat, ab_cI, ab_cJ, ab_cD, ab_cF]) (fun ls hl => ?_)
      refine lv_ldc2 (v := (1023)) X.1 X.2.1 X.2.2.2.1 (X.2.2.2.2.1 _ ll_X7_45) dX7_bitsOfSize_45 ?_
      refine lv_lstore (lv' := [(5, .long (1023)), (3, .double p0), (0, va_rf (some this)), (1, .double p0)]) X.1 X.2.1 dX7_bitsOfSize_48 hl (by decide) (by simp [ab_cat, ab_cI, ab_cJ, ab_cD, ab_cF]) (fun ls hl => ?_)
      refine ab_aload_n X dX7_bitsOfSize_50 rfl (lv_at hl 2 rfl) ?_
      refine ab_getR X S hF fi_7_0 lf_X7_9 dX7_bitsOfSize_51 (fun x3 hF => ?_)
      refine ab_alen X S hF rfl (by decide) dX7_bitsOfSize_54 (fun x4 hF => ?_)
      refine lv_iconst (v := 1) X.1 X.2.1 dX7_bitsOfSize_55 (by decide) ?_
      refine lv_isub X.1 X.2.1 dX7_bitsOfSize_56 ?_
      refine lv_istore (lv' := [(7, .int (x4 - 1)), (5, .long (1023)), (3, .double p0), (0, va_rf (some this)), (1, .double p0)]) X.1 X.2.1 dX7_bitsOfSize_57 hl (by decide) (by simp [ab_cat, ab_cI, ab_cJ, ab_cD, ab_cF]) (fun ls hl => ?_)
      exact w_X7_bitsOfSize_59 X hr  fuelN _ _ _ _ _ _ _ _ S (lv_sub hl [3, 2, 1, 0] rfl) hF
    · have hF := ab_neg c2 hF
      refine lv_dload_n X.1 X.2.1 dX7_bitsOfSize_20 rfl (lv_at hl 1 rfl) ?_
      refine ab_aload_n X dX7_bitsOfSize_21 rfl (lv_at hl 0 rfl) ?_
      refine ab_getR X S hF fi_7_0 lf_X7_9 dX7_bitsOfSize_22 (fun x5 hF => ?_)
      refine lv_bipush (v := 9) X.1 X.2.1 dX7_bitsOfSize_25 (by decide) ?_
      refine ab_aldD X S hF dX7_bitsOfSize_27 (fun x6 hF => ?_)
      obtain ⟨x7, ev, ne, hF⟩ := ab_fopx hF
      refine lv_dmul X.1 X.2.1 dX7_bitsOfSize_28 ne ?_
      rw [ev]
      refine ab_aload_n X dX7_bitsOfSize_29 rfl (lv_at hl 0 rfl) ?_
      refine ab_getR X S hF fi_7_0 lf_X7_9 dX7_bitsOfSize_30 (fun x8 hF => ?_)
      refine lv_bipush (v := 9) X.1 X.2.1 dX7_bitsOfSize_33 (by decide) ?_
      refine ab_aldD X S hF dX7_bitsOfSize_35 (fun x9 hF => ?_)
      obtain ⟨x10, ev, ne, hF⟩ := ab_fopx hF
      refine lv_dmul X.1 X.2.1 dX7_bitsOfSize_36 ne ?_
      rw [ev]
      refine lv_ldc2d (v := 4832362400168542208) X.1 X.2.1 X.2.2.2.1 (X.2.2.2.2.1 _ ld_X7_43) dX7_bitsOfSize_37 ?_
      obtain ⟨x11, ev, ne, hF⟩ := ab_fopx hF
      refine lv_dmul X.1 X.2.1 dX7_bitsOfSize_40 ne ?_
      rw [ev]
      refine lv_d2l X.1 X.2.1 dX7_bitsOfSize_41 ?_
      exact ab_lret X S hr hF dX7_bitsOfSize_42
  · have hF := ab_neg c1 hF
    refine lv_ldc2 (v := (9218868437227405312)) X.1 X.2.1 X.2.2.2.1 (X.2.2.2.2.1 _ ll_X7_39) dX7_bitsOfSize_8 ?_
    exact ab_lret X S hr hF dX7_bitsOfSize_11
def f_X8_lawAt_22  (u0 : Option Nat) (h : Hp) : Option (Option Nat × Hp) :=
  some (u0, h)
set_option maxHeartbeats 4000000 in
set_option maxRecDepth 100000 in
theorem w_X8_lawAt_22 {p : Program} {l : Launch} {e : Env} {s : State} {m : MethodId} {args : Array Value} {below : List Frame} {meth : Method} {c : Code} {D : va_G} {cA : Nat → ClassId} {sz : Nat} {rr : Option Nat} {hh : Hp}  (X : ab_X p s m args meth c cX8_lawAt 2 RX8 D cA sz) (hr : meth.sig.returnType = (some (.object "MotionStepper$Law")))  {H : Heap} {locs : List Loc} {ls : Array Slot} {u0 : Option Nat} {h : Hp} (S : ab_H D cA sz h s H locs) (hl : lv_has ls 2 []) (hF : f_X8_lawAt_22 u0 h = some (rr, hh)) : W p l e (ab_rm 0 0 0) s m args below meth c H locs 0 0 (MQ below (ab_Q D cA sz (some (va_rf rr)) hh) args s 0 0 (fun q => sz ≤ q)) (F0 m 22 ls [va_rf u0]) := by
  unfold f_X8_lawAt_22 at hF
  exact ab_aret X S hr hF dX8_lawAt_22
def f_X8_lawAt_21   (h : Hp) : Option (Option Nat × Hp) :=
  f_X8_lawAt_22 none h
set_option maxHeartbeats 4000000 in
set_option maxRecDepth 100000 in
theorem w_X8_lawAt_21 {p : Program} {l : Launch} {e : Env} {s : State} {m : MethodId} {args : Array Value} {below : List Frame} {meth : Method} {c : Code} {D : va_G} {cA : Nat → ClassId} {sz : Nat} {rr : Option Nat} {hh : Hp}  (X : ab_X p s m args meth c cX8_lawAt 2 RX8 D cA sz) (hr : meth.sig.returnType = (some (.object "MotionStepper$Law")))  {H : Heap} {locs : List Loc} {ls : Array Slot}  {h : Hp} (S : ab_H D cA sz h s H locs) (hl : lv_has ls 2 []) (hF : f_X8_lawAt_21  h = some (rr, hh)) : W p l e (ab_rm 0 0 0) s m args below meth c H locs 0 0 (MQ below (ab_Q D cA sz (some (va_rf rr)) hh) args s 0 0 (fun q => sz ≤ q)) (F0 m 21 ls []) := by
  unfold f_X8_lawAt_21 at hF
  refine lv_null X.1 X.2.1 dX8_lawAt_21 ?_
  exact w_X8_lawAt_22 X hr  S (lv_sub hl [] rfl) hF
def f_X8_lawAt (this : Nat) (p0 : Int32) (h : Hp) : Option (Option Nat × Hp) :=
  if p0 < 0 then
    f_X8_lawAt_21 h
  else
    (getI h (some this) 8 3).bind fun x2 =>
    if x2 ≤ p0 then
      f_X8_lawAt_21 h
    else
      (getR h (some this) 8 2).bind fun x4 =>
      (aldR h x4 13 p0).bind fun x5 =>
      f_X8_lawAt_22 x5 h
theorem mi_X8_lawAt : ab_MI yX8_lawAt cX8_lawAt 2 (some (.object "MotionStepper$Law")) 1 := ⟨lc_yX8_lawAt, lz_RX8, by decide, by decide, by decide +kernel⟩
set_option maxHeartbeats 4000000 in
set_option maxRecDepth 100000 in
theorem c_X8_lawAt (l : Launch) (D : va_G) (cA : Nat → ClassId) (sz : Nat) {this : Nat} {p0 : Int32} {h hh : Hp} {rr : Option Nat} (hF : f_X8_lawAt this p0 h = some (rr, hh)) : ab_C l D cA sz yX8_lawAt cX8_lawAt 2 (some (.object "MotionStepper$Law")) 0 0 0 [.ref this, .int p0] h (some (va_rf rr)) hh := by
  refine Met.ofW (cc := cX8_lawAt) (maxL := 2) (ret := (some (.object "MotionStepper$Law"))) (by decide) rfl ?_
  intro p e s m args below meth c s₁ B hml hv
  obtain ⟨rfl, hT, hR⟩ := hv
  have X : ab_X p s m _ meth c cX8_lawAt 2 RX8 D cA sz := (ab_enter B hml hT hR).1
  have S := (ab_enter B hml hT hR).2
  have hr := B.returns
  obtain ⟨ls, hls, hl⟩ := ab_entry m [.ref this, .int p0] 2 (lv := [(0, .ref this), (1, .int p0)]) (by simp [lg_sl, ab_cat, ab_cI, ab_cJ, ab_cD, ab_cF, ab_cA]) (by simp [lv_args, ab_cat, ab_cI, ab_cJ, ab_cD, ab_cF, ab_cA])
  rw [hls]
  have hl : lv_has ls 2 [(0, va_rf (some this)), (1, .int p0)] := hl
  unfold f_X8_lawAt at hF
  show W p l e (ab_rm 0 0 0) s m _ below meth c s.heap [] 0 0 _ _
  refine lv_iload_n X.1 X.2.1 dX8_lawAt_0 rfl (lv_at hl 1 rfl) ?_
  refine lv_if_lt (tgt := 21) X.1 X.2.1 dX8_lawAt_1 (by decide) (fun c1 => ?_) (fun c1 => ?_)
  · have hF := ab_pos c1 hF
    exact w_X8_lawAt_21 X hr  S (lv_sub hl [] rfl) hF
  · have hF := ab_neg c1 hF
    refine lv_iload_n X.1 X.2.1 dX8_lawAt_4 rfl (lv_at hl 1 rfl) ?_
    refine ab_aload_n X dX8_lawAt_5 rfl (lv_at hl 0 rfl) ?_
    refine ab_getI X S hF fi_8_3 lf_X8_56 dX8_lawAt_6 (fun x2 hF => ?_)
    refine lv_icmp_ge (tgt := 21) X.1 X.2.1 dX8_lawAt_9 (by decide) (fun c3 => ?_) (fun c3 => ?_)
    · have hF := ab_pos c3 hF
      exact w_X8_lawAt_21 X hr  S (lv_sub hl [] rfl) hF
    · have hF := ab_neg c3 hF
      refine ab_aload_n X dX8_lawAt_12 rfl (lv_at hl 0 rfl) ?_
      refine ab_getR X S hF fi_8_2 lf_X8_25 dX8_lawAt_13 (fun x4 hF => ?_)
      refine lv_iload_n X.1 X.2.1 dX8_lawAt_16 rfl (lv_at hl 1 rfl) ?_
      refine ab_aldR X S hF rfl (by decide) dX8_lawAt_17 (fun x5 hF => ?_)
      refine lv_goto (tgt := 22) X.1 X.2.1 dX8_lawAt_18 (by decide) ?_
      exact w_X8_lawAt_22 X hr  S (lv_sub hl [] rfl) hF
def f_X8_runAt_22  (u0 : Option Nat) (h : Hp) : Option (Option Nat × Hp) :=
  some (u0, h)
set_option maxHeartbeats 4000000 in
set_option maxRecDepth 100000 in
theorem w_X8_runAt_22 {p : Program} {l : Launch} {e : Env} {s : State} {m : MethodId} {args : Array Value} {below : List Frame} {meth : Method} {c : Code} {D : va_G} {cA : Nat → ClassId} {sz : Nat} {rr : Option Nat} {hh : Hp}  (X : ab_X p s m args meth c cX8_runAt 2 RX8 D cA sz) (hr : meth.sig.returnType = (some (.object "MotionStepper$Run")))  {H : Heap} {locs : List Loc} {ls : Array Slot} {u0 : Option Nat} {h : Hp} (S : ab_H D cA sz h s H locs) (hl : lv_has ls 2 []) (hF : f_X8_runAt_22 u0 h = some (rr, hh)) : W p l e (ab_rm 0 0 0) s m args below meth c H locs 0 0 (MQ below (ab_Q D cA sz (some (va_rf rr)) hh) args s 0 0 (fun q => sz ≤ q)) (F0 m 22 ls [va_rf u0]) := by
  unfold f_X8_runAt_22 at hF
  exact ab_aret X S hr hF dX8_runAt_22
def f_X8_runAt_21   (h : Hp) : Option (Option Nat × Hp) :=
  f_X8_runAt_22 none h
set_option maxHeartbeats 4000000 in
set_option maxRecDepth 100000 in
theorem w_X8_runAt_21 {p : Program} {l : Launch} {e : Env} {s : State} {m : MethodId} {args : Array Value} {below : List Frame} {meth : Method} {c : Code} {D : va_G} {cA : Nat → ClassId} {sz : Nat} {rr : Option Nat} {hh : Hp}  (X : ab_X p s m args meth c cX8_runAt 2 RX8 D cA sz) (hr : meth.sig.returnType = (some (.object "MotionStepper$Run")))  {H : Heap} {locs : List Loc} {ls : Array Slot}  {h : Hp} (S : ab_H D cA sz h s H locs) (hl : lv_has ls 2 []) (hF : f_X8_runAt_21  h = some (rr, hh)) : W p l e (ab_rm 0 0 0) s m args below meth c H locs 0 0 (MQ below (ab_Q D cA sz (some (va_rf rr)) hh) args s 0 0 (fun q => sz ≤ q)) (F0 m 21 ls []) := by
  unfold f_X8_runAt_21 at hF
  refine lv_null X.1 X.2.1 dX8_runAt_21 ?_
  exact w_X8_runAt_22 X hr  S (lv_sub hl [] rfl) hF
def f_X8_runAt (this : Nat) (p0 : Int32) (h : Hp) : Option (Option Nat × Hp) :=
  if p0 < 0 then
    f_X8_runAt_21 h
  else
    (getI h (some this) 8 7).bind fun x2 =>
    if x2 ≤ p0 then
      f_X8_runAt_21 h
    else
      (getR h (some this) 8 6).bind fun x4 =>
      (aldR h x4 15 p0).bind fun x5 =>
      f_X8_runAt_22 x5 h
theorem mi_X8_runAt : ab_MI yX8_runAt cX8_runAt 2 (some (.object "MotionStepper$Run")) 1 := ⟨lc_yX8_runAt, lz_RX8, by decide, by decide, by decide +kernel⟩
set_option maxHeartbeats 4000000 in
set_option maxRecDepth 100000 in
theorem c_X8_runAt (l : Launch) (D : va_G) (cA : Nat → ClassId) (sz : Nat) {this : Nat} {p0 : Int32} {h hh : Hp} {rr : Option Nat} (hF : f_X8_runAt this p0 h = some (rr, hh)) : ab_C l D cA sz yX8_runAt cX8_runAt 2 (some (.object "MotionStepper$Run")) 0 0 0 [.ref this, .int p0] h (some (va_rf rr)) hh := by
  refine Met.ofW (cc := cX8_runAt) (maxL := 2) (ret := (some (.object "MotionStepper$Run"))) (by decide) rfl ?_
  intro p e s m args below meth c s₁ B hml hv
  obtain ⟨rfl, hT, hR⟩ := hv
  have X : ab_X p s m _ meth c cX8_runAt 2 RX8 D cA sz := (ab_enter B hml hT hR).1
  have S := (ab_enter B hml hT hR).2
  have hr := B.returns
  obtain ⟨ls, hls, hl⟩ := ab_entry m [.ref this, .int p0] 2 (lv := [(0, .ref this), (1, .int p0)]) (by simp [lg_sl, ab_cat, ab_cI, ab_cJ, ab_cD, ab_cF, ab_cA]) (by simp [lv_args, ab_cat, ab_cI, ab_cJ, ab_cD, ab_cF, ab_cA])
  rw [hls]
  have hl : lv_has ls 2 [(0, va_rf (some this)), (1, .int p0)] := hl
  unfold f_X8_runAt at hF
  show W p l e (ab_rm 0 0 0) s m _ below meth c s.heap [] 0 0 _ _
  refine lv_iload_n X.1 X.2.1 dX8_runAt_0 rfl (lv_at hl 1 rfl) ?_
  refine lv_if_lt (tgt := 21) X.1 X.2.1 dX8_runAt_1 (by decide) (fun c1 => ?_) (fun c1 => ?_)
  · have hF := ab_pos c1 hF
    exact w_X8_runAt_21 X hr  S (lv_sub hl [] rfl) hF
  · have hF := ab_neg c1 hF
    refine lv_iload_n X.1 X.2.1 dX8_runAt_4 rfl (lv_at hl 1 rfl) ?_
    refine ab_aload_n X dX8_runAt_5 rfl (lv_at hl 0 rfl) ?_
    refine ab_getI X S hF fi_8_7 lf_X8_89 dX8_runAt_6 (fun x2 hF => ?_)
    refine lv_icmp_ge (tgt := 21) X.1 X.2.1 dX8_runAt_9 (by decide) (fun c3 => ?_) (fun c3 => ?_)
    · have hF := ab_pos c3 hF
      exact w_X8_runAt_21 X hr  S (lv_sub hl [] rfl) hF
    · have hF := ab_neg c3 hF
      refine ab_aload_n X dX8_runAt_12 rfl (lv_at hl 0 rfl) ?_
      refine ab_getR X S hF fi_8_6 lf_X8_37 dX8_runAt_13 (fun x4 hF => ?_)
      refine lv_iload_n X.1 X.2.1 dX8_runAt_16 rfl (lv_at hl 1 rfl) ?_
      refine ab_aldR X S hF rfl (by decide) dX8_runAt_17 (fun x5 hF => ?_)
      refine lv_goto (tgt := 22) X.1 X.2.1 dX8_runAt_18 (by decide) ?_
      exact w_X8_runAt_22 X hr  S (lv_sub hl [] rfl) hF
def f_X8_isK_15  (u0 : Int32) (h : Hp) : Option (Int32 × Hp) :=
  if u0 = 0 ∨ u0 = 1 then some (u0, h) else none
set_option maxHeartbeats 4000000 in
set_option maxRecDepth 100000 in
theorem w_X8_isK_15 {p : Program} {l : Launch} {e : Env} {s : State} {m : MethodId} {args : Array Value} {below : List Frame} {meth : Method} {c : Code} {D : va_G} {cA : Nat → ClassId} {sz : Nat} {rr : Int32} {hh : Hp}  (X : ab_X p s m args meth c cX8_isK 1 RX8 D cA sz) (hr : meth.sig.returnType = (some .boolean))  {H : Heap} {locs : List Loc} {ls : Array Slot} {u0 : Int32} {h : Hp} (S : ab_H D cA sz h s H locs) (hl : lv_has ls 1 []) (hF : f_X8_isK_15 u0 h = some (rr, hh)) : W p l e (ab_rm 0 0 0) s m args below meth c H locs 0 0 (MQ below (ab_Q D cA sz (some (.int rr)) hh) args s 0 0 (fun q => sz ≤ q)) (F0 m 15 ls [.int u0]) := by
  unfold f_X8_isK_15 at hF
  exact ab_zret X S hr hF dX8_isK_15
def f_X8_isK_14   (h : Hp) : Option (Int32 × Hp) :=
  f_X8_isK_15 0 h
set_option maxHeartbeats 4000000 in
set_option maxRecDepth 100000 in
theorem w_X8_isK_14 {p : Program} {l : Launch} {e : Env} {s : State} {m : MethodId} {args : Array Value} {below : List Frame} {meth : Method} {c : Code} {D : va_G} {cA : Nat → ClassId} {sz : Nat} {rr : Int32} {hh : Hp}  (X : ab_X p s m args meth c cX8_isK 1 RX8 D cA sz) (hr : meth.sig.returnType = (some .boolean))  {H : Heap} {locs : List Loc} {ls : Array Slot}  {h : Hp} (S : ab_H D cA sz h s H locs) (hl : lv_has ls 1 []) (hF : f_X8_isK_14  h = some (rr, hh)) : W p l e (ab_rm 0 0 0) s m args below meth c H locs 0 0 (MQ below (ab_Q D cA sz (some (.int rr)) hh) args s 0 0 (fun q => sz ≤ q)) (F0 m 14 ls []) := by
  unfold f_X8_isK_14 at hF
  refine lv_iconst (v := 0) X.1 X.2.1 dX8_isK_14 (by decide) ?_
  exact w_X8_isK_15 X hr  S (lv_sub hl [] rfl) hF
def f_X8_isK (p0 : Int32) (h : Hp) : Option (Int32 × Hp) :=
  if p0 < 0 then
    f_X8_isK_14 h
  else
    if 30 < p0 then
      f_X8_isK_14 h
    else
      f_X8_isK_15 1 h
theorem mi_X8_isK : ab_MI yX8_isK cX8_isK 1 (some .boolean) 1 := ⟨lc_yX8_isK, lz_RX8, by decide, by decide, by decide +kernel⟩
set_option maxHeartbeats 4000000 in
set_option maxRecDepth 100000 in
theorem c_X8_isK (l : Launch) (D : va_G) (cA : Nat → ClassId) (sz : Nat) {p0 : Int32} {h hh : Hp} {rr : Int32} (hF : f_X8_isK p0 h = some (rr, hh)) : ab_C l D cA sz yX8_isK cX8_isK 1 (some .boolean) 0 0 0 [.int p0] h (some (.int rr)) hh := by
  refine Met.ofW (cc := cX8_isK) (maxL := 1) (ret := (some .boolean)) (by decide) rfl ?_
  intro p e s m args below meth c s₁ B hml hv
  obtain ⟨rfl, hT, hR⟩ := hv
  have X : ab_X p s m _ meth c cX8_isK 1 RX8 D cA sz := (ab_enter B hml hT hR).1
  have S := (ab_enter B hml hT hR).2
  have hr := B.returns
  obtain ⟨ls, hls, hl⟩ := ab_entry m [.int p0] 1 (lv := [(0, .int p0)]) (by simp [lg_sl, ab_cat, ab_cI, ab_cJ, ab_cD, ab_cF, ab_cA]) (by simp [lv_args, ab_cat, ab_cI, ab_cJ, ab_cD, ab_cF, ab_cA])
  rw [hls]
  have hl : lv_has ls 1 [(0, .int p0)] := hl
  unfold f_X8_isK at hF
  show W p l e (ab_rm 0 0 0) s m _ below meth c s.heap [] 0 0 _ _
  refine lv_iload_n X.1 X.2.1 dX8_isK_0 rfl (lv_at hl 0 rfl) ?_
  refine lv_if_lt (tgt := 14) X.1 X.2.1 dX8_isK_1 (by decide) (fun c1 => ?_) (fun c1 => ?_)
  · have hF := ab_pos c1 hF
    exact w_X8_isK_14 X hr  S (lv_sub hl [] rfl) hF
  · have hF := ab_neg c1 hF
    refine lv_iload_n X.1 X.2.1 dX8_isK_4 rfl (lv_at hl 0 rfl) ?_
    refine lv_bipush (v := 30) X.1 X.2.1 dX8_isK_5 (by decide) ?_
    refine lv_icmp_gt (tgt := 14) X.1 X.2.1 dX8_isK_7 (by decide) (fun c2 => ?_) (fun c2 => ?_)
    · have hF := ab_pos c2 hF
      exact w_X8_isK_14 X hr  S (lv_sub hl [] rfl) hF
    · have hF := ab_neg c2 hF
      refine lv_iconst (v := 1) X.1 X.2.1 dX8_isK_10 (by decide) ?_
      refine lv_goto (tgt := 15) X.1 X.2.1 dX8_isK_11 (by decide) ?_
      exact w_X8_isK_15 X hr  S (lv_sub hl [] rfl) hF
def f_X8_quotient (p0 : Int64) (p1 : Int32) (h : Hp) : Option (UInt64 × Hp) :=
  (fop (FP.ddiv (FP.l2d p0) (FP.l2d (1 <<< (p1.toInt64 &&& 63))))).bind fun x1 =>
  some (x1, h)
theorem mi_X8_quotient : ab_MI yX8_quotient cX8_quotient 3 (some .double) 2 := ⟨lc_yX8_quotient, lz_RX8, by decide, by decide, by decide +kernel⟩
set_option maxHeartbeats 4000000 in
set_option maxRecDepth 100000 in
theorem c_X8_quotient (l : Launch) (D : va_G) (cA : Nat → ClassId) (sz : Nat) {p0 : Int64} {p1 : Int32} {h hh : Hp} {rr : UInt64} (hF : f_X8_quotient p0 p1 h = some (rr, hh)) : ab_C l D cA sz yX8_quotient cX8_quotient 3 (some .double) 0 0 0 [.long p0, .int p1] h (some (.double rr)) hh := by
  refine Met.ofW (cc := cX8_quotient) (maxL := 3) (ret := (some .double)) (by decide) rfl ?_
  intro p e s m args below meth c s₁ B hml hv
  obtain ⟨rfl, hT, hR⟩ := hv
  have X : ab_X p s m _ meth c cX8_quotient 3 RX8 D cA sz := (ab_enter B hml hT hR).1
  have S := (ab_enter B hml hT hR).2
  have hr := B.returns
  obtain ⟨ls, hls, hl⟩ := ab_entry m [.long p0, .int p1] 3 (lv := [(0, .long p0), (2, .int p1)]) (by simp [lg_sl, ab_cat, ab_cI, ab_cJ, ab_cD, ab_cF, ab_cA]) (by simp [lv_args, ab_cat, ab_cI, ab_cJ, ab_cD, ab_cF, ab_cA])
  rw [hls]
  have hl : lv_has ls 3 [(0, .long p0), (2, .int p1)] := hl
  unfold f_X8_quotient at hF
  show W p l e (ab_rm 0 0 0) s m _ below meth c s.heap [] 0 0 _ _
  refine lv_lload_n X.1 X.2.1 dX8_quotient_0 rfl (lv_at hl 0 rfl) ?_
  refine lv_l2d X.1 X.2.1 dX8_quotient_1 ?_
  refine lv_lconst (v := 1) X.1 X.2.1 dX8_quotient_2 (by decide) ?_
  refine lv_iload_n X.1 X.2.1 dX8_quotient_3 rfl (lv_at hl 1 rfl) ?_
  refine lv_lshl (v := 1 <<< (p1.toInt64 &&& 63)) X.1 X.2.1 dX8_quotient_4 rfl ?_
  refine lv_l2d X.1 X.2.1 dX8_quotient_5 ?_
  obtain ⟨x1, ev, ne, hF⟩ := ab_fopx hF
  refine lv_ddiv X.1 X.2.1 dX8_quotient_6 ne ?_
  rw [ev]
  exact ab_dret X S hr hF dX8_quotient_7
def f_X8_size_13  (u0 : UInt64) (h : Hp) : Option (UInt64 × Hp) :=
  some (u0, h)
set_option maxHeartbeats 4000000 in
set_option maxRecDepth 100000 in
theorem w_X8_size_13 {p : Program} {l : Launch} {e : Env} {s : State} {m : MethodId} {args : Array Value} {below : List Frame} {meth : Method} {c : Code} {D : va_G} {cA : Nat → ClassId} {sz : Nat} {rr : UInt64} {hh : Hp}  (X : ab_X p s m args meth c cX8_size 2 RX8 D cA sz) (hr : meth.sig.returnType = (some .double))  {H : Heap} {locs : List Loc} {ls : Array Slot} {u0 : UInt64} {h : Hp} (S : ab_H D cA sz h s H locs) (hl : lv_has ls 2 []) (hF : f_X8_size_13 u0 h = some (rr, hh)) : W p l e (ab_rm 0 0 0) s m args below meth c H locs 0 0 (MQ below (ab_Q D cA sz (some (.double rr)) hh) args s 0 0 (fun q => sz ≤ q)) (F0 m 13 ls [.double u0]) := by
  unfold f_X8_size_13 at hF
  exact ab_dret X S hr hF dX8_size_13
def f_X8_size (p0 : UInt64) (h : Hp) : Option (UInt64 × Hp) :=
  if 0 < (Op.cmpValue (FP.dcmp p0 FP.dconst0) CmpOp.g) then
    f_X8_size_13 p0 h
  else
    (fop (FP.dsub FP.dconst0 p0)).bind fun x2 =>
    f_X8_size_13 x2 h
theorem mi_X8_size : ab_MI yX8_size cX8_size 2 (some .double) 1 := ⟨lc_yX8_size, lz_RX8, by decide, by decide, by decide +kernel⟩
set_option maxHeartbeats 4000000 in
set_option maxRecDepth 100000 in
theorem c_X8_size (l : Launch) (D : va_G) (cA : Nat → ClassId) (sz : Nat) {p0 : UInt64} {h hh : Hp} {rr : UInt64} (hF : f_X8_size p0 h = some (rr, hh)) : ab_C l D cA sz yX8_size cX8_size 2 (some .double) 0 0 0 [.double p0] h (some (.double rr)) hh := by
  refine Met.ofW (cc := cX8_size) (maxL := 2) (ret := (some .double)) (by decide) rfl ?_
  intro p e s m args below meth c s₁ B hml hv
  obtain ⟨rfl, hT, hR⟩ := hv
  have X : ab_X p s m _ meth c cX8_size 2 RX8 D cA sz := (ab_enter B hml hT hR).1
  have S := (ab_enter B hml hT hR).2
  have hr := B.returns
  obtain ⟨ls, hls, hl⟩ := ab_entry m [.double p0] 2 (lv := [(0, .double p0)]) (by simp [lg_sl, ab_cat, ab_cI, ab_cJ, ab_cD, ab_cF, ab_cA]) (by simp [lv_args, ab_cat, ab_cI, ab_cJ, ab_cD, ab_cF, ab_cA])
  rw [hls]
  have hl : lv_has ls 2 [(0, .double p0)] := hl
  unfold f_X8_size at hF
  show W p l e (ab_rm 0 0 0) s m _ below meth c s.heap [] 0 0 _ _
  refine lv_dload_n X.1 X.2.1 dX8_size_0 rfl (lv_at hl 0 rfl) ?_
  refine lv_dconst0 X.1 X.2.1 dX8_size_1 ?_
  refine lv_dcmp X.1 X.2.1 dX8_size_2 ?_
  refine lv_if_gt (tgt := 12) X.1 X.2.1 dX8_size_3 (by decide) (fun c1 => ?_) (fun c1 => ?_)
  · have hF := ab_pos c1 hF
    refine lv_dload_n X.1 X.2.1 dX8_size_12 rfl (lv_at hl 0 rfl) ?_
    exact w_X8_size_13 X hr  S (lv_sub hl [] rfl) hF
  · have hF := ab_neg c1 hF
    refine lv_dconst0 X.1 X.2.1 dX8_size_6 ?_
    refine lv_dload_n X.1 X.2.1 dX8_size_7 rfl (lv_at hl 0 rfl) ?_
    obtain ⟨x2, ev, ne, hF⟩ := ab_fopx hF
    refine lv_dsub X.1 X.2.1 dX8_size_8 ne ?_
    rw [ev]
    refine lv_goto (tgt := 13) X.1 X.2.1 dX8_size_9 (by decide) ?_
    exact w_X8_size_13 X hr  S (lv_sub hl [] rfl) hF
def f_X8_isTooSmall_13  (u0 : Int32) (h : Hp) : Option (Int32 × Hp) :=
  if u0 = 0 ∨ u0 = 1 then some (u0, h) else none
set_option maxHeartbeats 4000000 in
set_option maxRecDepth 100000 in
theorem w_X8_isTooSmall_13 {p : Program} {l : Launch} {e : Env} {s : State} {m : MethodId} {args : Array Value} {below : List Frame} {meth : Method} {c : Code} {D : va_G} {cA : Nat → ClassId} {sz : Nat} {rr : Int32} {hh : Hp}  (X : ab_X p s m args meth c cX8_isTooSmall 2 RX8 D cA sz) (hr : meth.sig.returnType = (some .boolean))  {H : Heap} {locs : List Loc} {ls : Array Slot} {u0 : Int32} {h : Hp} (S : ab_H D cA sz h s H locs) (hl : lv_has ls 2 []) (hF : f_X8_isTooSmall_13 u0 h = some (rr, hh)) : W p l e (ab_rm 0 0 0) s m args below meth c H locs 0 0 (MQ below (ab_Q D cA sz (some (.int rr)) hh) args s 0 0 (fun q => sz ≤ q)) (F0 m 13 ls [.int u0]) := by
  unfold f_X8_isTooSmall_13 at hF
  exact ab_zret X S hr hF dX8_isTooSmall_13
def f_X8_isTooSmall (p0 : UInt64) (h : Hp) : Option (Int32 × Hp) :=
  if 0 ≤ (Op.cmpValue (FP.dcmp p0 4472074429978902528) CmpOp.g) then
    f_X8_isTooSmall_13 0 h
  else
    f_X8_isTooSmall_13 1 h
theorem mi_X8_isTooSmall : ab_MI yX8_isTooSmall cX8_isTooSmall 2 (some .boolean) 1 := ⟨lc_yX8_isTooSmall, lz_RX8, by decide, by decide, by decide +kernel⟩
set_option maxHeartbeats 4000000 in
set_option maxRecDepth 100000 in
theorem c_X8_isTooSmall (l : Launch) (D : va_G) (cA : Nat → ClassId) (sz : Nat) {p0 : UInt64} {h hh : Hp} {rr : Int32} (hF : f_X8_isTooSmall p0 h = some (rr, hh)) : ab_C l D cA sz yX8_isTooSmall cX8_isTooSmall 2 (some .boolean) 0 0 0 [.double p0] h (some (.int rr)) hh := by
  refine Met.ofW (cc := cX8_isTooSmall) (maxL := 2) (ret := (some .boolean)) (by decide) rfl ?_
  intro p e s m args below meth c s₁ B hml hv
  obtain ⟨rfl, hT, hR⟩ := hv
  have X : ab_X p s m _ meth c cX8_isTooSmall 2 RX8 D cA sz := (ab_enter B hml hT hR).1
  have S := (ab_enter B hml hT hR).2
  have hr := B.returns
  obtain ⟨ls, hls, hl⟩ := ab_entry m [.double p0] 2 (lv := [(0, .double p0)]) (by simp [lg_sl, ab_cat, ab_cI, ab_cJ, ab_cD, ab_cF, ab_cA]) (by simp [lv_args, ab_cat, ab_cI, ab_cJ, ab_cD, ab_cF, ab_cA])
  rw [hls]
  have hl : lv_has ls 2 [(0, .double p0)] := hl
  unfold f_X8_isTooSmall at hF
  show W p l e (ab_rm 0 0 0) s m _ below meth c s.heap [] 0 0 _ _
  refine lv_dload_n X.1 X.2.1 dX8_isTooSmall_0 rfl (lv_at hl 0 rfl) ?_
  refine lv_ldc2d (v := 4472074429978902528) X.1 X.2.1 X.2.2.2.1 (X.2.2.2.2.1 _ ld_X8_286) dX8_isTooSmall_1 ?_
  refine lv_dcmp X.1 X.2.1 dX8_isTooSmall_4 ?_
  refine lv_if_ge (tgt := 12) X.1 X.2.1 dX8_isTooSmall_5 (by decide) (fun c1 => ?_) (fun c1 => ?_)
  · have hF := ab_pos c1 hF
    refine lv_iconst (v := 0) X.1 X.2.1 dX8_isTooSmall_12 (by decide) ?_
    exact w_X8_isTooSmall_13 X hr  S (lv_sub hl [] rfl) hF
  · have hF := ab_neg c1 hF
    refine lv_iconst (v := 1) X.1 X.2.1 dX8_isTooSmall_8 (by decide) ?_
    refine lv_goto (tgt := 13) X.1 X.2.1 dX8_isTooSmall_9 (by decide) ?_
    exact w_X8_isTooSmall_13 X hr  S (lv_sub hl [] rfl) hF
def f_X8_fits_104  (u0 : Int32) (h : Hp) : Option (Int32 × Hp) :=
  if u0 = 0 ∨ u0 = 1 then some (u0, h) else none
set_option maxHeartbeats 4000000 in
set_option maxRecDepth 100000 in
theorem w_X8_fits_104 {p : Program} {l : Launch} {e : Env} {s : State} {m : MethodId} {args : Array Value} {below : List Frame} {meth : Method} {c : Code} {D : va_G} {cA : Nat → ClassId} {sz : Nat} {rr : Int32} {hh : Hp}  (X : ab_X p s m args meth c cX8_fits 6 RX8 D cA sz) (hr : meth.sig.returnType = (some .boolean))  {H : Heap} {locs : List Loc} {ls : Array Slot} {u0 : Int32} {h : Hp} (S : ab_H D cA sz h s H locs) (hl : lv_has ls 6 []) (hF : f_X8_fits_104 u0 h = some (rr, hh)) : W p l e (ab_rm 1 0 0) s m args below meth c H locs 0 0 (MQ below (ab_Q D cA sz (some (.int rr)) hh) args s 0 0 (fun q => sz ≤ q)) (F0 m 104 ls [.int u0]) := by
  unfold f_X8_fits_104 at hF
  exact ab_zret X S hr hF dX8_fits_104
def f_X8_fits_103   (h : Hp) : Option (Int32 × Hp) :=
  f_X8_fits_104 0 h
set_option maxHeartbeats 4000000 in
set_option maxRecDepth 100000 in
theorem w_X8_fits_103 {p : Program} {l : Launch} {e : Env} {s : State} {m : MethodId} {args : Array Value} {below : List Frame} {meth : Method} {c : Code} {D : va_G} {cA : Nat → ClassId} {sz : Nat} {rr : Int32} {hh : Hp}  (X : ab_X p s m args meth c cX8_fits 6 RX8 D cA sz) (hr : meth.sig.returnType = (some .boolean))  {H : Heap} {locs : List Loc} {ls : Array Slot}  {h : Hp} (S : ab_H D cA sz h s H locs) (hl : lv_has ls 6 []) (hF : f_X8_fits_103  h = some (rr, hh)) : W p l e (ab_rm 1 0 0) s m args below meth c H locs 0 0 (MQ below (ab_Q D cA sz (some (.int rr)) hh) args s 0 0 (fun q => sz ≤ q)) (F0 m 103 ls []) := by
  unfold f_X8_fits_103 at hF
  refine lv_iconst (v := 0) X.1 X.2.1 dX8_fits_103 (by decide) ?_
  exact w_X8_fits_104 X hr  S (lv_sub hl [] rfl) hF
def f_X8_fits_82  (v1 : Option Nat) (v3 : Int32) (v4 : Int32) (h : Hp) : Option (Int32 × Hp) :=
  (ab_ck h v1 (1, 0)).bind fun a4 =>
  bnd (f_X1_hasNode a4 v3 h) fun x1 h2 =>
  if x1 = 0 then
    f_X8_fits_103 h2
  else
    (ab_ck h2 v1 (1, 0)).bind fun a10 =>
    bnd (f_X1_hasNode a10 v4 h2) fun x7 h8 =>
    if x7 = 0 then
      f_X8_fits_103 h8
    else
      f_X8_fits_104 1 h8
set_option maxHeartbeats 4000000 in
set_option maxRecDepth 100000 in
theorem w_X8_fits_82 {p : Program} {l : Launch} {e : Env} {s : State} {m : MethodId} {args : Array Value} {below : List Frame} {meth : Method} {c : Code} {D : va_G} {cA : Nat → ClassId} {sz : Nat} {rr : Int32} {hh : Hp}  (X : ab_X p s m args meth c cX8_fits 6 RX8 D cA sz) (hr : meth.sig.returnType = (some .boolean))  {H : Heap} {locs : List Loc} {ls : Array Slot} {v1 : Option Nat} {v3 : Int32} {v4 : Int32} {h : Hp} (S : ab_H D cA sz h s H locs) (hl : lv_has ls 6 [(1, va_rf v1), (3, .int v3), (4, .int v4)]) (hF : f_X8_fits_82 v1 v3 v4 h = some (rr, hh)) : W p l e (ab_rm 1 0 0) s m args below meth c H locs 0 0 (MQ below (ab_Q D cA sz (some (.int rr)) hh) args s 0 0 (fun q => sz ≤ q)) (F0 m 82 ls []) := by
  unfold f_X8_fits_82 at hF
  refine ab_aload_n X dX8_fits_82 rfl (lv_at hl 0 rfl) ?_
  refine lv_iload_n X.1 X.2.1 dX8_fits_83 rfl (lv_at hl 1 rfl) ?_
  obtain ⟨a4, e5, hF⟩ := bind_out hF
  obtain ⟨x1, h2, e3, hF⟩ := bnd_out hF
  refine ab_callVi X S e5 (c_X1_hasNode l D cA sz e3) rfl (by decide) mi_X1_hasNode lm_X8_86 li_yX1_hasNode ls_yX1_hasNode (As := [.int v3]) (rest := []) rfl ⟨by decide, by decide⟩ ⟨by decide, by decide⟩ hl.1 rfl (by simp [ab_cat, ab_cI, ab_cJ, ab_cD, ab_cF]) dX8_fits_84 (fun H1 locs1 S => ?_)
  refine lv_if_eq (tgt := 103) X.1 X.2.1 dX8_fits_87 (by decide) (fun c6 => ?_) (fun c6 => ?_)
  · have hF := ab_pos c6 hF
    exact w_X8_fits_103 X hr  S (lv_sub hl [] rfl) hF
  · have hF := ab_neg c6 hF
    refine ab_aload_n X dX8_fits_90 rfl (lv_at hl 0 rfl) ?_
    refine lv_iload X.1 X.2.1 dX8_fits_91 (lv_at hl 2 rfl) ?_
    obtain ⟨a10, e11, hF⟩ := bind_out hF
    obtain ⟨x7, h8, e9, hF⟩ := bnd_out hF
    refine ab_callVi X S e11 (c_X1_hasNode l D cA sz e9) rfl (by decide) mi_X1_hasNode lm_X8_86 li_yX1_hasNode ls_yX1_hasNode (As := [.int v4]) (rest := []) rfl ⟨by decide, by decide⟩ ⟨by decide, by decide⟩ hl.1 rfl (by simp [ab_cat, ab_cI, ab_cJ, ab_cD, ab_cF]) dX8_fits_93 (fun H1 locs1 S => ?_)
    refine lv_if_eq (tgt := 103) X.1 X.2.1 dX8_fits_96 (by decide) (fun c12 => ?_) (fun c12 => ?_)
    · have hF := ab_pos c12 hF
      exact w_X8_fits_103 X hr  S (lv_sub hl [] rfl) hF
    · have hF := ab_neg c12 hF
      refine lv_iconst (v := 1) X.1 X.2.1 dX8_fits_99 (by decide) ?_
      refine lv_goto (tgt := 104) X.1 X.2.1 dX8_fits_100 (by decide) ?_
      exact w_X8_fits_104 X hr  S (lv_sub hl [] rfl) hF
def f_X8_fits_76  (v1 : Option Nat) (v3 : Int32) (h : Hp) : Option (Int32 × Hp) :=
  (ab_ck h v1 (1, 0)).bind fun a4 =>
  bnd (f_X1_hasNode a4 v3 h) fun x1 h2 =>
  if x1 = 0 ∨ x1 = 1 then some (x1, h2) else none
set_option maxHeartbeats 4000000 in
set_option maxRecDepth 100000 in
theorem w_X8_fits_76 {p : Program} {l : Launch} {e : Env} {s : State} {m : MethodId} {args : Array Value} {below : List Frame} {meth : Method} {c : Code} {D : va_G} {cA : Nat → ClassId} {sz : Nat} {rr : Int32} {hh : Hp}  (X : ab_X p s m args meth c cX8_fits 6 RX8 D cA sz) (hr : meth.sig.returnType = (some .boolean))  {H : Heap} {locs : List Loc} {ls : Array Slot} {v1 : Option Nat} {v3 : Int32} {h : Hp} (S : ab_H D cA sz h s H locs) (hl : lv_has ls 6 [(1, va_rf v1), (3, .int v3)]) (hF : f_X8_fits_76 v1 v3 h = some (rr, hh)) : W p l e (ab_rm 1 0 0) s m args below meth c H locs 0 0 (MQ below (ab_Q D cA sz (some (.int rr)) hh) args s 0 0 (fun q => sz ≤ q)) (F0 m 76 ls []) := by
  unfold f_X8_fits_76 at hF
  refine ab_aload_n X dX8_fits_76 rfl (lv_at hl 0 rfl) ?_
  refine lv_iload_n X.1 X.2.1 dX8_fits_77 rfl (lv_at hl 1 rfl) ?_
  obtain ⟨a4, e5, hF⟩ := bind_out hF
  obtain ⟨x1, h2, e3, hF⟩ := bnd_out hF
  refine ab_callVi X S e5 (c_X1_hasNode l D cA sz e3) rfl (by decide) mi_X1_hasNode lm_X8_86 li_yX1_hasNode ls_yX1_hasNode (As := [.int v3]) (rest := []) rfl ⟨by decide, by decide⟩ ⟨by decide, by decide⟩ hl.1 rfl (by simp [ab_cat, ab_cI, ab_cJ, ab_cD, ab_cF]) dX8_fits_78 (fun H1 locs1 S => ?_)
  exact ab_zret X S hr hF dX8_fits_81
def f_X8_fits_136  (u0 : Int32) (h : Hp) : Option (Int32 × Hp) :=
  if u0 = 0 ∨ u0 = 1 then some (u0, h) else none
set_option maxHeartbeats 4000000 in
set_option maxRecDepth 100000 in
theorem w_X8_fits_136 {p : Program} {l : Launch} {e : Env} {s : State} {m : MethodId} {args : Array Value} {below : List Frame} {meth : Method} {c : Code} {D : va_G} {cA : Nat → ClassId} {sz : Nat} {rr : Int32} {hh : Hp}  (X : ab_X p s m args meth c cX8_fits 6 RX8 D cA sz) (hr : meth.sig.returnType = (some .boolean))  {H : Heap} {locs : List Loc} {ls : Array Slot} {u0 : Int32} {h : Hp} (S : ab_H D cA sz h s H locs) (hl : lv_has ls 6 []) (hF : f_X8_fits_136 u0 h = some (rr, hh)) : W p l e (ab_rm 1 0 0) s m args below meth c H locs 0 0 (MQ below (ab_Q D cA sz (some (.int rr)) hh) args s 0 0 (fun q => sz ≤ q)) (F0 m 136 ls [.int u0]) := by
  unfold f_X8_fits_136 at hF
  exact ab_zret X S hr hF dX8_fits_136
def f_X8_fits_135   (h : Hp) : Option (Int32 × Hp) :=
  f_X8_fits_136 0 h
set_option maxHeartbeats 4000000 in
set_option maxRecDepth 100000 in
theorem w_X8_fits_135 {p : Program} {l : Launch} {e : Env} {s : State} {m : MethodId} {args : Array Value} {below : List Frame} {meth : Method} {c : Code} {D : va_G} {cA : Nat → ClassId} {sz : Nat} {rr : Int32} {hh : Hp}  (X : ab_X p s m args meth c cX8_fits 6 RX8 D cA sz) (hr : meth.sig.returnType = (some .boolean))  {H : Heap} {locs : List Loc} {ls : Array Slot}  {h : Hp} (S : ab_H D cA sz h s H locs) (hl : lv_has ls 6 []) (hF : f_X8_fits_135  h = some (rr, hh)) : W p l e (ab_rm 1 0 0) s m args below meth c H locs 0 0 (MQ below (ab_Q D cA sz (some (.int rr)) hh) args s 0 0 (fun q => sz ≤ q)) (F0 m 135 ls []) := by
  unfold f_X8_fits_135 at hF
  refine lv_iconst (v := 0) X.1 X.2.1 dX8_fits_135 (by decide) ?_
  exact w_X8_fits_136 X hr  S (lv_sub hl [] rfl) hF
def f_X8_fits_162  (u0 : Int32) (h : Hp) : Option (Int32 × Hp) :=
  if u0 = 0 ∨ u0 = 1 then some (u0, h) else none
set_option maxHeartbeats 4000000 in
set_option maxRecDepth 100000 in
theorem w_X8_fits_162 {p : Program} {l : Launch} {e : Env} {s : State} {m : MethodId} {args : Array Value} {below : List Frame} {meth : Method} {c : Code} {D : va_G} {cA : Nat → ClassId} {sz : Nat} {rr : Int32} {hh : Hp}  (X : ab_X p s m args meth c cX8_fits 6 RX8 D cA sz) (hr : meth.sig.returnType = (some .boolean))  {H : Heap} {locs : List Loc} {ls : Array Slot} {u0 : Int32} {h : Hp} (S : ab_H D cA sz h s H locs) (hl : lv_has ls 6 []) (hF : f_X8_fits_162 u0 h = some (rr, hh)) : W p l e (ab_rm 1 0 0) s m args below meth c H locs 0 0 (MQ below (ab_Q D cA sz (some (.int rr)) hh) args s 0 0 (fun q => sz ≤ q)) (F0 m 162 ls [.int u0]) := by
  unfold f_X8_fits_162 at hF
  exact ab_zret X S hr hF dX8_fits_162
def f_X8_fits_161   (h : Hp) : Option (Int32 × Hp) :=
  f_X8_fits_162 0 h
set_option maxHeartbeats 4000000 in
set_option maxRecDepth 100000 in
theorem w_X8_fits_161 {p : Program} {l : Launch} {e : Env} {s : State} {m : MethodId} {args : Array Value} {below : List Frame} {meth : Method} {c : Code} {D : va_G} {cA : Nat → ClassId} {sz : Nat} {rr : Int32} {hh : Hp}  (X : ab_X p s m args meth c cX8_fits 6 RX8 D cA sz) (hr : meth.sig.returnType = (some .boolean))  {H : Heap} {locs : List Loc} {ls : Array Slot}  {h : Hp} (S : ab_H D cA sz h s H locs) (hl : lv_has ls 6 []) (hF : f_X8_fits_161  h = some (rr, hh)) : W p l e (ab_rm 1 0 0) s m args below meth c H locs 0 0 (MQ below (ab_Q D cA sz (some (.int rr)) hh) args s 0 0 (fun q => sz ≤ q)) (F0 m 161 ls []) := by
  unfold f_X8_fits_161 at hF
  refine lv_iconst (v := 0) X.1 X.2.1 dX8_fits_161 (by decide) ?_
  exact w_X8_fits_162 X hr  S (lv_sub hl [] rfl) hF
def f_X8_fits_190  (u0 : Int32) (h : Hp) : Option (Int32 × Hp) :=
  if u0 = 0 ∨ u0 = 1 then some (u0, h) else none
set_option maxHeartbeats 4000000 in
set_option maxRecDepth 100000 in
theorem w_X8_fits_190 {p : Program} {l : Launch} {e : Env} {s : State} {m : MethodId} {args : Array Value} {below : List Frame} {meth : Method} {c : Code} {D : va_G} {cA : Nat → ClassId} {sz : Nat} {rr : Int32} {hh : Hp}  (X : ab_X p s m args meth c cX8_fits 6 RX8 D cA sz) (hr : meth.sig.returnType = (some .boolean))  {H : Heap} {locs : List Loc} {ls : Array Slot} {u0 : Int32} {h : Hp} (S : ab_H D cA sz h s H locs) (hl : lv_has ls 6 []) (hF : f_X8_fits_190 u0 h = some (rr, hh)) : W p l e (ab_rm 1 0 0) s m args below meth c H locs 0 0 (MQ below (ab_Q D cA sz (some (.int rr)) hh) args s 0 0 (fun q => sz ≤ q)) (F0 m 190 ls [.int u0]) := by
  unfold f_X8_fits_190 at hF
  exact ab_zret X S hr hF dX8_fits_190
def f_X8_fits_189   (h : Hp) : Option (Int32 × Hp) :=
  f_X8_fits_190 0 h
set_option maxHeartbeats 4000000 in
set_option maxRecDepth 100000 in
theorem w_X8_fits_189 {p : Program} {l : Launch} {e : Env} {s : State} {m : MethodId} {args : Array Value} {below : List Frame} {meth : Method} {c : Code} {D : va_G} {cA : Nat → ClassId} {sz : Nat} {rr : Int32} {hh : Hp}  (X : ab_X p s m args meth c cX8_fits 6 RX8 D cA sz) (hr : meth.sig.returnType = (some .boolean))  {H : Heap} {locs : List Loc} {ls : Array Slot}  {h : Hp} (S : ab_H D cA sz h s H locs) (hl : lv_has ls 6 []) (hF : f_X8_fits_189  h = some (rr, hh)) : W p l e (ab_rm 1 0 0) s m args below meth c H locs 0 0 (MQ below (ab_Q D cA sz (some (.int rr)) hh) args s 0 0 (fun q => sz ≤ q)) (F0 m 189 ls []) := by
  unfold f_X8_fits_189 at hF
  refine lv_iconst (v := 0) X.1 X.2.1 dX8_fits_189 (by decide) ?_
  exact w_X8_fits_190 X hr  S (lv_sub hl [] rfl) hF
def f_X8_fits (this : Nat) (p0 : Option Nat) (p1 : Int32) (p2 : Int32) (p3 : Int32) (p4 : Int32) (h : Hp) : Option (Int32 × Hp) :=
  if p1.toInt < 0 ∨ 12 < p1.toInt then
    if 0 = 0 ∨ 0 = 1 then some (0, h) else none
  else if p1 = 0 then
    (ab_ck h p0 (1, 0)).bind fun a6 =>
    bnd (f_X1_hasVariable a6 p2 h) fun x3 h4 =>
    if x3 = 0 ∨ x3 = 1 then some (x3, h4) else none
  else if p1 = 1 then
    if 1 = 0 ∨ 1 = 1 then some (1, h) else none
  else if p1 = 2 then
    f_X8_fits_82 p0 p2 p3 h
  else if p1 = 3 then
    f_X8_fits_82 p0 p2 p3 h
  else if p1 = 4 then
    f_X8_fits_82 p0 p2 p3 h
  else if p1 = 5 then
    f_X8_fits_82 p0 p2 p3 h
  else if p1 = 6 then
    f_X8_fits_76 p0 p2 h
  else if p1 = 7 then
    f_X8_fits_76 p0 p2 h
  else if p1 = 8 then
    f_X8_fits_82 p0 p2 p3 h
  else if p1 = 9 then
    f_X8_fits_82 p0 p2 p3 h
  else if p1 = 10 then
    (ab_ck h p0 (1, 0)).bind fun a21 =>
    bnd (f_X1_hasNode a21 p2 h) fun x18 h19 =>
    if x18 = 0 then
      f_X8_fits_135 h19
    else
      (ab_ck h19 p0 (1, 0)).bind fun a27 =>
      bnd (f_X1_hasNode a27 p3 h19) fun x24 h25 =>
      if x24 = 0 then
        f_X8_fits_135 h25
      else
        (ab_ck h25 p0 (1, 0)).bind fun a33 =>
        bnd (f_X1_hasNode a33 p4 h25) fun x30 h31 =>
        if x30 = 0 then
          f_X8_fits_135 h31
        else
          f_X8_fits_136 1 h31
  else if p1 = 11 then
    (ab_ck h p0 (1, 0)).bind fun a40 =>
    bnd (f_X1_hasNode a40 p2 h) fun x37 h38 =>
    if x37 = 0 then
      f_X8_fits_161 h38
    else
      if p3 < 0 then
        f_X8_fits_161 h38
      else
        if 9 < p3 then
          f_X8_fits_161 h38
        else
          f_X8_fits_162 1 h38
  else if p1 = 12 then
    (ab_ck h p0 (1, 0)).bind fun a49 =>
    bnd (f_X1_hasNode a49 p2 h) fun x46 h47 =>
    if x46 = 0 then
      f_X8_fits_189 h47
    else
      if p3 < 0 then
        f_X8_fits_189 h47
      else
        (getI h47 (some this) 8 5).bind fun x53 =>
        if x53 ≤ p3 then
          f_X8_fits_189 h47
        else
          f_X8_fits_190 1 h47
  else none
theorem mi_X8_fits : ab_MI yX8_fits cX8_fits 6 (some .boolean) 5 := ⟨lc_yX8_fits, lz_RX8, by decide, by decide, by decide +kernel⟩
set_option maxHeartbeats 4000000 in
set_option maxRecDepth 100000 in
theorem c_X8_fits (l : Launch) (D : va_G) (cA : Nat → ClassId) (sz : Nat) {this : Nat} {p0 : Option Nat} {p1 : Int32} {p2 : Int32} {p3 : Int32} {p4 : Int32} {h hh : Hp} {rr : Int32} (hF : f_X8_fits this p0 p1 p2 p3 p4 h = some (rr, hh)) : ab_C l D cA sz yX8_fits cX8_fits 6 (some .boolean) 1 0 0 [.ref this, va_rf p0, .int p1, .int p2, .int p3, .int p4] h (some (.int rr)) hh := by
  refine Met.ofW (cc := cX8_fits) (maxL := 6) (ret := (some .boolean)) (by decide) rfl ?_
  intro p e s m args below meth c s₁ B hml hv
  obtain ⟨rfl, hT, hR⟩ := hv
  have X : ab_X p s m _ meth c cX8_fits 6 RX8 D cA sz := (ab_enter B hml hT hR).1
  have S := (ab_enter B hml hT hR).2
  have hr := B.returns
  obtain ⟨ls, hls, hl⟩ := ab_entry m [.ref this, va_rf p0, .int p1, .int p2, .int p3, .int p4] 6 (lv := [(0, .ref this), (1, va_rf p0), (2, .int p1), (3, .int p2), (4, .int p3), (5, .int p4)]) (by simp [lg_sl, ab_cat, ab_cI, ab_cJ, ab_cD, ab_cF, ab_cA]) (by simp [lv_args, ab_cat, ab_cI, ab_cJ, ab_cD, ab_cF, ab_cA])
  rw [hls]
  have hl : lv_has ls 6 [(0, va_rf (some this)), (1, va_rf p0), (2, .int p1), (3, .int p2), (4, .int p3), (5, .int p4)] := hl
  unfold f_X8_fits at hF
  show W p l e (ab_rm 1 0 0) s m _ below meth c s.heap [] 0 0 _ _
  refine lv_iload_n X.1 X.2.1 dX8_fits_0 rfl (lv_at hl 2 rfl) ?_
  by_cases c1 : p1.toInt < 0 ∨ 12 < p1.toInt
  · have hF := ab_pos c1 hF
    refine lv_tableOut (tgt := 191) X.1 X.2.1 dX8_fits_1 c1 (by decide) ?_
    refine lv_iconst (v := 0) X.1 X.2.1 dX8_fits_191 (by decide) ?_
    exact ab_zret X S hr hF dX8_fits_192
  have hF := ab_neg c1 hF
  by_cases c2 : p1 = 0
  · have hF := ab_pos c2 hF
    refine ab_tab (tgt := 68) X dX8_fits_1 c2 (by decide) (by decide) rfl (by decide) ?_
    refine ab_aload_n X dX8_fits_68 rfl (lv_at hl 1 rfl) ?_
    refine lv_iload_n X.1 X.2.1 dX8_fits_69 rfl (lv_at hl 3 rfl) ?_
    obtain ⟨a6, e7, hF⟩ := bind_out hF
    obtain ⟨x3, h4, e5, hF⟩ := bnd_out hF
    refine ab_callVi X S e7 (c_X1_hasVariable l D cA sz e5) rfl (by decide) mi_X1_hasVariable lm_X8_83 li_yX1_hasVariable ls_yX1_hasVariable (As := [.int p2]) (rest := []) rfl ⟨by decide, by decide⟩ ⟨by decide, by decide⟩ hl.1 rfl (by simp [ab_cat, ab_cI, ab_cJ, ab_cD, ab_cF]) dX8_fits_70 (fun H1 locs1 S => ?_)
    exact ab_zret X S hr hF dX8_fits_73
  have hF := ab_neg c2 hF
  by_cases c8 : p1 = 1
  · have hF := ab_pos c8 hF
    refine ab_tab (tgt := 74) X dX8_fits_1 c8 (by decide) (by decide) rfl (by decide) ?_
    refine lv_iconst (v := 1) X.1 X.2.1 dX8_fits_74 (by decide) ?_
    exact ab_zret X S hr hF dX8_fits_75
  have hF := ab_neg c8 hF
  by_cases c9 : p1 = 2
  · have hF := ab_pos c9 hF
    refine ab_tab (tgt := 82) X dX8_fits_1 c9 (by decide) (by decide) rfl (by decide) ?_
    exact w_X8_fits_82 X hr  S (lv_sub hl [1, 3, 4] rfl) hF
  have hF := ab_neg c9 hF
  by_cases c10 : p1 = 3
  · have hF := ab_pos c10 hF
    refine ab_tab (tgt := 82) X dX8_fits_1 c10 (by decide) (by decide) rfl (by decide) ?_
    exact w_X8_fits_82 X hr  S (lv_sub hl [1, 3, 4] rfl) hF
  have hF := ab_neg c10 hF
  by_cases c11 : p1 = 4
  · have hF := ab_pos c11 hF
    refine ab_tab (tgt := 82) X dX8_fits_1 c11 (by decide) (by decide) rfl (by decide) ?_
    exact w_X8_fits_82 X hr  S (lv_sub hl [1, 3, 4] rfl) hF
  have hF := ab_neg c11 hF
  by_cases c12 : p1 = 5
  · have hF := ab_pos c12 hF
    refine ab_tab (tgt := 82) X dX8_fits_1 c12 (by decide) (by decide) rfl (by decide) ?_
    exact w_X8_fits_82 X hr  S (lv_sub hl [1, 3, 4] rfl) hF
  have hF := ab_neg c12 hF
  by_cases c13 : p1 = 6
  · have hF := ab_pos c13 hF
    refine ab_tab (tgt := 76) X dX8_fits_1 c13 (by decide) (by decide) rfl (by decide) ?_
    exact w_X8_fits_76 X hr  S (lv_sub hl [1, 3] rfl) hF
  have hF := ab_neg c13 hF
  by_cases c14 : p1 = 7
  · have hF := ab_pos c14 hF
    refine ab_tab (tgt := 76) X dX8_fits_1 c14 (by decide) (by decide) rfl (by decide) ?_
    exact w_X8_fits_76 X hr  S (lv_sub hl [1, 3] rfl) hF
  have hF := ab_neg c14 hF
  by_cases c15 : p1 = 8
  · have hF := ab_pos c15 hF
    refine ab_tab (tgt := 82) X dX8_fits_1 c15 (by decide) (by decide) rfl (by decide) ?_
    exact w_X8_fits_82 X hr  S (lv_sub hl [1, 3, 4] rfl) hF
  have hF := ab_neg c15 hF
  by_cases c16 : p1 = 9
  · have hF := ab_pos c16 hF
    refine ab_tab (tgt := 82) X dX8_fits_1 c16 (by decide) (by decide) rfl (by decide) ?_
    exact w_X8_fits_82 X hr  S (lv_sub hl [1, 3, 4] rfl) hF
  have hF := ab_neg c16 hF
  by_cases c17 : p1 = 10
  · have hF := ab_pos c17 hF
    refine ab_tab (tgt := 105) X dX8_fits_1 c17 (by decide) (by decide) rfl (by decide) ?_
    refine ab_aload_n X dX8_fits_105 rfl (lv_at hl 1 rfl) ?_
    refine lv_iload_n X.1 X.2.1 dX8_fits_106 rfl (lv_at hl 3 rfl) ?_
    obtain ⟨a21, e22, hF⟩ := bind_out hF
    obtain ⟨x18, h19, e20, hF⟩ := bnd_out hF
    refine ab_callVi X S e22 (c_X1_hasNode l D cA sz e20) rfl (by decide) mi_X1_hasNode lm_X8_86 li_yX1_hasNode ls_yX1_hasNode (As := [.int p2]) (rest := []) rfl ⟨by decide, by decide⟩ ⟨by decide, by decide⟩ hl.1 rfl (by simp [ab_cat, ab_cI, ab_cJ, ab_cD, ab_cF]) dX8_fits_107 (fun H1 locs1 S => ?_)
    refine lv_if_eq (tgt := 135) X.1 X.2.1 dX8_fits_110 (by decide) (fun c23 => ?_) (fun c23 => ?_)
    · have hF := ab_pos c23 hF
      exact w_X8_fits_135 X hr  S (lv_sub hl [] rfl) hF
    · have hF := ab_neg c23 hF
      refine ab_aload_n X dX8_fits_113 rfl (lv_at hl 1 rfl) ?_
      refine lv_iload X.1 X.2.1 dX8_fits_114 (lv_at hl 4 rfl) ?_
      obtain ⟨a27, e28, hF⟩ := bind_out hF
      obtain ⟨x24, h25, e26, hF⟩ := bnd_out hF
      refine ab_callVi X S e28 (c_X1_hasNode l D cA sz e26) rfl (by decide) mi_X1_hasNode lm_X8_86 li_yX1_hasNode ls_yX1_hasNode (As := [.int p3]) (rest := []) rfl ⟨by decide, by decide⟩ ⟨by decide, by decide⟩ hl.1 rfl (by simp [ab_cat, ab_cI, ab_cJ, ab_cD, ab_cF]) dX8_fits_116 (fun H1 locs1 S => ?_)
      refine lv_if_eq (tgt := 135) X.1 X.2.1 dX8_fits_119 (by decide) (fun c29 => ?_) (fun c29 => ?_)
      · have hF := ab_pos c29 hF
        exact w_X8_fits_135 X hr  S (lv_sub hl [] rfl) hF
      · have hF := ab_neg c29 hF
        refine ab_aload_n X dX8_fits_122 rfl (lv_at hl 1 rfl) ?_
        refine lv_iload X.1 X.2.1 dX8_fits_123 (lv_at hl 5 rfl) ?_
        obtain ⟨a33, e34, hF⟩ := bind_out hF
        obtain ⟨x30, h31, e32, hF⟩ := bnd_out hF
        refine ab_callVi X S e34 (c_X1_hasNode l D cA sz e32) rfl (by decide) mi_X1_hasNode lm_X8_86 li_yX1_hasNode ls_yX1_hasNode (As := [.int p4]) (rest := []) rfl ⟨by decide, by decide⟩ ⟨by decide, by decide⟩ hl.1 rfl (by simp [ab_cat, ab_cI, ab_cJ, ab_cD, ab_cF]) dX8_fits_125 (fun H1 locs1 S => ?_)
        refine lv_if_eq (tgt := 135) X.1 X.2.1 dX8_fits_128 (by decide) (fun c35 => ?_) (fun c35 => ?_)
        · have hF := ab_pos c35 hF
          exact w_X8_fits_135 X hr  S (lv_sub hl [] rfl) hF
        · have hF := ab_neg c35 hF
          refine lv_iconst (v := 1) X.1 X.2.1 dX8_fits_131 (by decide) ?_
          refine lv_goto (tgt := 136) X.1 X.2.1 dX8_fits_132 (by decide) ?_
          exact w_X8_fits_136 X hr  S (lv_sub hl [] rfl) hF
  have hF := ab_neg c17 hF
  by_cases c36 : p1 = 11
  · have hF := ab_pos c36 hF
    refine ab_tab (tgt := 137) X dX8_fits_1 c36 (by decide) (by decide) rfl (by decide) ?_
    refine ab_aload_n X dX8_fits_137 rfl (lv_at hl 1 rfl) ?_
    refine lv_iload_n X.1 X.2.1 dX8_fits_138 rfl (lv_at hl 3 rfl) ?_
    obtain ⟨a40, e41, hF⟩ := bind_out hF
    obtain ⟨x37, h38, e39, hF⟩ := bnd_out hF
    refine ab_callVi X S e41 (c_X1_hasNode l D cA sz e39) rfl (by decide) mi_X1_hasNode lm_X8_86 li_yX1_hasNode ls_yX1_hasNode (As := [.int p2]) (rest := []) rfl ⟨by decide, by decide⟩ ⟨by decide, by decide⟩ hl.1 rfl (by simp [ab_cat, ab_cI, ab_cJ, ab_cD, ab_cF]) dX8_fits_139 (fun H1 locs1 S => ?_)
    refine lv_if_eq (tgt := 161) X.1 X.2.1 dX8_fits_142 (by decide) (fun c42 => ?_) (fun c42 => ?_)
    · have hF := ab_pos c42 hF
      exact w_X8_fits_161 X hr  S (lv_sub hl [] rfl) hF
    · have hF := ab_neg c42 hF
      refine lv_iload X.1 X.2.1 dX8_fits_145 (lv_at hl 4 rfl) ?_
      refine lv_if_lt (tgt := 161) X.1 X.2.1 dX8_fits_147 (by decide) (fun c43 => ?_) (fun c43 => ?_)
      · have hF := ab_pos c43 hF
        exact w_X8_fits_161 X hr  S (lv_sub hl [] rfl) hF
      · have hF := ab_neg c43 hF
        refine lv_iload X.1 X.2.1 dX8_fits_150 (lv_at hl 4 rfl) ?_
        refine lv_bipush (v := 9) X.1 X.2.1 dX8_fits_152 (by decide) ?_
        refine lv_icmp_gt (tgt := 161) X.1 X.2.1 dX8_fits_154 (by decide) (fun c44 => ?_) (fun c44 => ?_)
        · have hF := ab_pos c44 hF
          exact w_X8_fits_161 X hr  S (lv_sub hl [] rfl) hF
        · have hF := ab_neg c44 hF
          refine lv_iconst (v := 1) X.1 X.2.1 dX8_fits_157 (by decide) ?_
          refine lv_goto (tgt := 162) X.1 X.2.1 dX8_fits_158 (by decide) ?_
          exact w_X8_fits_162 X hr  S (lv_sub hl [] rfl) hF
  have hF := ab_neg c36 hF
  by_cases c45 : p1 = 12
  · have hF := ab_pos c45 hF
    refine ab_tab (tgt := 163) X dX8_fits_1 c45 (by decide) (by decide) rfl (by decide) ?_
    refine ab_aload_n X dX8_fits_163 rfl (lv_at hl 1 rfl) ?_
    refine lv_iload_n X.1 X.2.1 dX8_fits_164 rfl (lv_at hl 3 rfl) ?_
    obtain ⟨a49, e50, hF⟩ := bind_out hF
    obtain ⟨x46, h47, e48, hF⟩ := bnd_out hF
    refine ab_callVi X S e50 (c_X1_hasNode l D cA sz e48) rfl (by decide) mi_X1_hasNode lm_X8_86 li_yX1_hasNode ls_yX1_hasNode (As := [.int p2]) (rest := []) rfl ⟨by decide, by decide⟩ ⟨by decide, by decide⟩ hl.1 rfl (by simp [ab_cat, ab_cI, ab_cJ, ab_cD, ab_cF]) dX8_fits_165 (fun H1 locs1 S => ?_)
    refine lv_if_eq (tgt := 189) X.1 X.2.1 dX8_fits_168 (by decide) (fun c51 => ?_) (fun c51 => ?_)
    · have hF := ab_pos c51 hF
      exact w_X8_fits_189 X hr  S (lv_sub hl [] rfl) hF
    · have hF := ab_neg c51 hF
      refine lv_iload X.1 X.2.1 dX8_fits_171 (lv_at hl 4 rfl) ?_
      refine lv_if_lt (tgt := 189) X.1 X.2.1 dX8_fits_173 (by decide) (fun c52 => ?_) (fun c52 => ?_)
      · have hF := ab_pos c52 hF
        exact w_X8_fits_189 X hr  S (lv_sub hl [] rfl) hF
      · have hF := ab_neg c52 hF
        refine lv_iload X.1 X.2.1 dX8_fits_176 (lv_at hl 4 rfl) ?_
        refine ab_aload_n X dX8_fits_178 rfl (lv_at hl 0 rfl) ?_
        refine ab_getI X S hF fi_8_5 lf_X8_100 dX8_fits_179 (fun x53 hF => ?_)
        refine lv_icmp_ge (tgt := 189) X.1 X.2.1 dX8_fits_182 (by decide) (fun c54 => ?_) (fun c54 => ?_)
        · have hF := ab_pos c54 hF
          exact w_X8_fits_189 X hr  S (lv_sub hl [] rfl) hF
        · have hF := ab_neg c54 hF
          refine lv_iconst (v := 1) X.1 X.2.1 dX8_fits_185 (by decide) ?_
          refine lv_goto (tgt := 190) X.1 X.2.1 dX8_fits_186 (by decide) ?_
          exact w_X8_fits_190 X hr  S (lv_sub hl [] rfl) hF
  have hF := ab_neg c45 hF
  cases hF
