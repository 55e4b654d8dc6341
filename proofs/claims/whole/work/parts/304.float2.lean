/-! ===== doubles as whole numbers of the least one ===== -/
abbrev zv (a : UInt64) : Int := FP.Core.zval FP.Core.b64 (FP.Core.val64 a)
theorem z_lt {a b : UInt64} (ha : Nm a) (hb : Nm b) : ky a < ky b ↔ zv a < zv b := by
  have h1 := FP.Core.dcmp_key (nm_val.mp ha) (nm_val.mp hb)
  have h2 := FP.Core.dcmp_lt (a := a) (b := b)
  constructor
  · intro q
    rw [(FP.Core.compare_lt_iff _ _).mpr q] at h1
    exact (h2.mp h1).2.2
  · intro q
    have h3 := h2.mpr ⟨nm_val.mp ha, nm_val.mp hb, q⟩
    rw [h1] at h3
    exact (FP.Core.compare_lt_iff _ _).mp (Option.some.inj h3)
theorem z_le {a b : UInt64} (ha : Nm a) (hb : Nm b) : ky a ≤ ky b ↔ zv a ≤ zv b := by
  have := z_lt hb ha
  omega
theorem z_0 : zv 0 = 0 := FP.Core.zval64_zero
theorem nm_00 : Nm 0 := by unfold Nm; rw [ky_00]; decide
theorem fn_fin {a : UInt64} (h : Fn a) : ∃ s c q, FP.Core.val64 a = .fin s c q := fin_ky.mpr h
theorem z_sub {a : UInt64} : zv (FP.dneg a) = - zv a := by
  by_cases h : Nm a
  · show FP.Core.zval _ (FP.Core.val64 (FP.dneg a)) = _
    rw [FP.val64_dneg, FP.Core.zval_negate]
  · have h1 := nm_not.mp h
    have h2 := nm_not.mp (fun q => h (nm_dneg.mp q))
    show FP.Core.zval _ (FP.Core.val64 (FP.dneg a)) = - FP.Core.zval _ (FP.Core.val64 a)
    rw [h1, h2]; rfl
theorem add_z_le {a b V : UInt64} (ha : Fn a) (hb : Fn b) (hV : Nm V) (h : zv a + zv b ≤ zv V) : ky (FP.dadd a b) ≤ ky V := by
  have hn : Nm (FP.dadd a b) := dadd_nm.mpr ⟨ha.nm, hb.nm, fun q => by have := fnk ha; omega⟩
  rw [z_le hn hV]
  show FP.Core.zval _ (FP.Core.val64 (FP.Core.dadd a b)) ≤ _
  rw [FP.Core.val64_dadd]
  exact FP.Core.sum_le FP.Core.good_b64 (fn_fin ha) (fn_fin hb) (FP.Core.val64_fits a) (FP.Core.val64_fits b) (FP.Core.val64_fits V) (nm_val.mp hV) h
theorem add_z_ge {a b V : UInt64} (ha : Fn a) (hb : Fn b) (hV : Nm V) (h : zv V ≤ zv a + zv b) : ky V ≤ ky (FP.dadd a b) := by
  have hn : Nm (FP.dadd a b) := dadd_nm.mpr ⟨ha.nm, hb.nm, fun q => by have := fnk ha; omega⟩
  rw [z_le hV hn]
  show _ ≤ FP.Core.zval _ (FP.Core.val64 (FP.Core.dadd a b))
  rw [FP.Core.val64_dadd]
  exact FP.Core.sum_ge FP.Core.good_b64 (fn_fin ha) (fn_fin hb) (FP.Core.val64_fits a) (FP.Core.val64_fits b) (FP.Core.val64_fits V) (nm_val.mp hV) h
theorem fn_dneg {a : UInt64} : Fn (FP.dneg a) ↔ Fn a := by unfold Fn; rw [ky_dneg]; omega
theorem dsub_is (a b : UInt64) : FP.dsub a b = FP.dadd a (FP.dneg b) := by
  by_cases h : Nm b
  · show FP.Core.dsub a b = FP.Core.dadd a (FP.dneg b)
    rw [FP.dneg_core (nm_is.mp h)]
    exact FP.Core.dsub_eq a b
  · have h1 := nm_not.mp h
    have h2 := nm_not.mp (fun q => h (nm_dneg.mp q))
    show FP.Core.of64 (FP.Core.round FP.Core.b64 (FP.Core.exactSum (FP.Core.val64 a) (FP.Core.negate (FP.Core.val64 b)))) = FP.Core.of64 (FP.Core.round FP.Core.b64 (FP.Core.exactSum (FP.Core.val64 a) (FP.Core.val64 (FP.dneg b))))
    rw [h1, h2]; rfl
theorem sub_z_le {a b V : UInt64} (ha : Fn a) (hb : Fn b) (hV : Nm V) (h : zv a - zv b ≤ zv V) : ky (FP.dsub a b) ≤ ky V := by
  rw [dsub_is]
  exact add_z_le ha (fn_dneg.mpr hb) hV (by rw [z_sub]; omega)
theorem sub_z_ge {a b V : UInt64} (ha : Fn a) (hb : Fn b) (hV : Nm V) (h : zv V ≤ zv a - zv b) : ky V ≤ ky (FP.dsub a b) := by
  rw [dsub_is]
  exact add_z_ge ha (fn_dneg.mpr hb) hV (by rw [z_sub]; omega)
theorem z_m1 : zv 1 = 1 := by decide +kernel
theorem z_m1n : zv 9223372036854775809 = -1 := by decide +kernel
theorem ky_m1 : ky 1 = 1 := by decide +kernel
theorem ky_m1n : ky 9223372036854775809 = -1 := by decide +kernel
theorem nm_m1 : Nm 1 := by unfold Nm; rw [ky_m1]; decide
theorem nm_m1n : Nm 9223372036854775809 := by unfold Nm; rw [ky_m1n]; decide
/-- a difference has the sign of the order -/
theorem sub_sg {a b : UInt64} (ha : Fn a) (hb : Fn b) : (ky (FP.dsub a b) < 0 ↔ ky a < ky b) ∧ (ky (FP.dsub a b) = 0 ↔ ky a = ky b) := by
  rcases Int.lt_trichotomy (ky a) (ky b) with h | h | h
  · have hz := (z_lt ha.nm hb.nm).mp h
    have := sub_z_le ha hb nm_m1n (by rw [z_m1n]; omega)
    rw [ky_m1n] at this
    omega
  · have h1 := (z_le ha.nm hb.nm).mp (by omega)
    have h2 := (z_le hb.nm ha.nm).mp (by omega)
    have h3 := sub_z_le ha hb nm_00 (by rw [z_0]; omega)
    have h4 := sub_z_ge ha hb nm_00 (by rw [z_0]; omega)
    rw [ky_00] at h3 h4
    omega
  · have hz := (z_lt hb.nm ha.nm).mp h
    have := sub_z_ge ha hb nm_m1 (by rw [z_m1]; omega)
    rw [ky_m1] at this
    omega
/-- the same where the second may be an infinity -/
theorem sub_sg2 {a b : UInt64} (ha : Fn a) (hb : Nm b) : (ky (FP.dsub a b) < 0 ↔ ky a < ky b) ∧ (ky (FP.dsub a b) = 0 ↔ ky a = ky b) := by
  by_cases fb : Fn b
  · exact sub_sg ha fb
  · have kb := nfn hb fb
    obtain ⟨s, c, q, hv⟩ := fn_fin ha
    have ka := fnk ha
    rcases (by omega : ky b = 9218868437227405312 ∨ ky b = -9218868437227405312) with z | z
    · have e : FP.Core.val64 (FP.dsub a b) = .inf true := by
        show FP.Core.val64 (FP.Core.dsub a b) = _
        rw [FP.Core.val64_dsub, hv, infp_ky.mpr z]; rfl
      have := infn_ky.mp e
      omega
    · have e : FP.Core.val64 (FP.dsub a b) = .inf false := by
        show FP.Core.val64 (FP.Core.dsub a b) = _
        rw [FP.Core.val64_dsub, hv, infn_ky.mpr z]; rfl
      have := infp_ky.mp e
      omega
/-- a quotient of what isn't below 0, bounded -/
theorem div_z_le {a b V : UInt64} {k : Nat} (ha : Fn a) (hb : Fn b) (h0 : 0 ≤ ky a) (h1 : 0 < ky b) (hV : Fn V) (vk : zv V = (k * 2 ^ 1074 : Nat)) (h : zv a ≤ (k : Int) * zv b) : Fn (FP.ddiv a b) ∧ (ky (FP.ddiv a b)).natAbs ≤ (ky V).natAbs := by
  have hn : Nm (FP.ddiv a b) := ddiv_nm.mpr ⟨ha.nm, hb.nm, fun q => by have := fnk ha; omega, fun q => by omega⟩
  obtain ⟨s, c, q, va⟩ := fn_fin ha
  obtain ⟨t, d, r, vb⟩ := fn_fin hb
  have za : zv a = FP.Core.signed s (c * 2 ^ (q - FP.Core.b64.qmin).toNat) := by show FP.Core.zval _ _ = _; rw [va]; rfl
  have zb : zv b = FP.Core.signed t (d * 2 ^ (r - FP.Core.b64.qmin).toNat) := by show FP.Core.zval _ _ = _; rw [vb]; rfl
  have zb0 : 0 < zv b := by have := (z_lt nm_00 hb.nm).mp (by rw [ky_00]; exact h1); rw [z_0] at this; exact this
  have za0 : 0 ≤ zv a := by have := (z_le nm_00 ha.nm).mp (by rw [ky_00]; exact h0); rw [z_0] at this; exact this
  have zb1 := zb0
  rw [zb] at zb1
  obtain ⟨tb, tb0⟩ := FP.Core.signed_pos zb1
  have fa := FP.Core.val64_fits a
  have fb := FP.Core.val64_fits b
  have fV := FP.Core.val64_fits V
  rw [va] at fa
  rw [vb] at fb
  have hq := fa.2.1
  have hr := fb.2.1
  have hd0 : d ≠ 0 := by intro z; rw [z, Nat.zero_mul] at tb0; exact absurd tb0 (Nat.lt_irrefl _)
  have e : FP.Core.val64 (FP.ddiv a b) = FP.Core.roundRatio FP.Core.b64 (s != t) c d (q - r) := by
    show FP.Core.val64 (FP.Core.ddiv a b) = _
    rw [FP.Core.val64_ddiv, va, vb]
    simp only [FP.Core.quotient, if_neg hd0]
  have qm : FP.Core.b64.qmin = -1074 := by decide
  have zV : FP.Core.zmag FP.Core.b64 (FP.Core.val64 V) = k * 2 ^ 1074 := by
    have : (zv V).natAbs = FP.Core.zmag FP.Core.b64 (FP.Core.val64 V) := by
      show (FP.Core.signed _ _).natAbs = _
      unfold FP.Core.signed; split <;> omega
    rw [← this, vk]; omega
  have cle : c * 2 ^ (q - FP.Core.b64.qmin).toNat ≤ k * (d * 2 ^ (r - FP.Core.b64.qmin).toNat) := by
    have h2 : zv a = (c * 2 ^ (q - FP.Core.b64.qmin).toNat : Nat) := by
      rw [za] at za0 ⊢
      unfold FP.Core.signed at za0 ⊢
      split
      · rename_i w; rw [if_pos w] at za0; omega
      · rfl
    have h3 : zv b = (d * 2 ^ (r - FP.Core.b64.qmin).toNat : Nat) := by rw [zb, tb]
    rw [h2, h3] at h
    have h4 : ((c * 2 ^ (q - FP.Core.b64.qmin).toNat : Nat) : Int) ≤ ((k * (d * 2 ^ (r - FP.Core.b64.qmin).toNat) : Nat) : Int) := by rw [Int.natCast_mul k]; exact h
    exact Int.ofNat_le.mp h4
  have hm := FP.Core.zmag_roundRatio_le FP.Core.good_b64 (s := (s != t)) (A := c) (B := d) (e := q - r) (e0 := 2 * FP.Core.b64.qmin - r) (V := FP.Core.val64 V) (by omega) fV (nm_val.mp hV.nm) (by omega) (by omega) (by
    rw [zV]
    have e1 : FP.Core.inUnits c (q - r) (2 * FP.Core.b64.qmin - r) = c * 2 ^ (q - FP.Core.b64.qmin).toNat * 2 ^ 1074 := by
      show c * _ = _
      rw [Nat.mul_assoc, ← Nat.pow_add]; congr 2; omega
    have e2 : 2 ^ (FP.Core.b64.qmin - (2 * FP.Core.b64.qmin - r)).toNat * d = d * 2 ^ (r - FP.Core.b64.qmin).toNat := by
      rw [Nat.mul_comm]; congr 2; omega
    rw [e1, Nat.mul_assoc (k * 2 ^ 1074), e2]
    calc c * 2 ^ (q - FP.Core.b64.qmin).toNat * 2 ^ 1074 ≤ k * (d * 2 ^ (r - FP.Core.b64.qmin).toNat) * 2 ^ 1074 := Nat.mul_le_mul_right _ cle
      _ = k * 2 ^ 1074 * (d * 2 ^ (r - FP.Core.b64.qmin).toNat) := Nat.mul_right_comm _ _ _)
  rw [← e, FP.Core.zmag_bits (nm_val.mp hn), FP.Core.zmag_bits (nm_val.mp hV.nm), FP.Core.unitsOf_le_iff, ← ky_mod, ← ky_mod] at hm
  have := fnk hV
  exact ⟨by show (ky (FP.ddiv a b)).natAbs < _; omega, hm⟩
theorem z_1 : zv FP.dconst1 = (1 * 2 ^ 1074 : Nat) := by decide +kernel
theorem z_2 : zv 4611686018427387904 = (2 * 2 ^ 1074 : Nat) := by decide +kernel
theorem fn_1 : Fn FP.dconst1 := by show (ky _).natAbs < _; rw [ky_1]; decide
theorem div_sg {a b : UInt64} (ha : Fn a) (hb : Fn b) (sa : a.toNat < 2 ^ 63) (h1 : 0 < ky b) (hf : Nm (FP.ddiv a b)) : 0 ≤ ky (FP.ddiv a b) := by
  obtain ⟨s, c, q, va⟩ := fn_fin ha
  obtain ⟨t, d, r, vb⟩ := fn_fin hb
  have s1 := FP.Core.sgn_bits (nm_val.mp ha.nm)
  have s2 := FP.Core.sgn_bits (nm_val.mp hb.nm)
  rw [va] at s1
  rw [vb] at s2
  have hb3 : ¬ 2 ^ 63 ≤ b.toNat := by have := ky_sgn (a := b); have hm := ky_mod b; intro q; rcases this.mp q with z | z <;> omega
  rw [decide_eq_false (by omega)] at s1
  rw [decide_eq_false hb3] at s2
  have s1' : s = false := s1
  have s2' : t = false := s2
  subst s1'; subst s2'
  have hd0 : d ≠ 0 := by
    rintro rfl
    have hz : FP.Core.DZero b := ⟨false, r, vb⟩
    have := zero_ky.mp hz
    omega
  have e : FP.Core.val64 (FP.ddiv a b) = FP.Core.roundRatio FP.Core.b64 false c d (q - r) := by
    show FP.Core.val64 (FP.Core.ddiv a b) = _
    rw [FP.Core.val64_ddiv, va, vb]
    simp only [FP.Core.quotient, if_neg hd0]; rfl
  have hn := nm_val.mp hf
  have s3 := FP.Core.sgn_bits hn
  rw [e, FP.Core.sgn_roundRatio] at s3
  have s4 : ¬ 2 ^ 63 ≤ (FP.ddiv a b).toNat := fun q => by rw [decide_eq_true q] at s3; exact absurd s3 (by decide)
  have := ky_sgn (a := FP.ddiv a b)
  by_cases z : ky (FP.ddiv a b) < 0
  · exact absurd (this.mpr (Or.inl z)) s4
  · omega
theorem ky_nn {a : UInt64} (h : 0 ≤ ky a) (h0 : a ≠ 9223372036854775808) : a.toNat < 2 ^ 63 := by
  have h1 := ky_sgn (a := a)
  by_cases q : 2 ^ 63 ≤ a.toNat
  · rcases h1.mp q with z | z
    · omega
    · exact absurd (UInt64.toNat_inj.mp (by rw [z]; rfl)) h0
  · omega
/-- the middle of two places in a step -/
theorem mid_ok {a b : UInt64} (a0 : 0 ≤ ky a) (a1 : ky a ≤ ky FP.dconst1) (b0 : 0 ≤ ky b) (b1 : ky b ≤ ky FP.dconst1) (an : a ≠ 9223372036854775808) (bn : b ≠ 9223372036854775808) :
    Nm (FP.dadd a b) ∧ Nm (FP.ddiv (FP.dadd a b) 4611686018427387904) ∧ 0 ≤ ky (FP.ddiv (FP.dadd a b) 4611686018427387904) ∧ ky (FP.ddiv (FP.dadd a b) 4611686018427387904) ≤ ky FP.dconst1 ∧ FP.ddiv (FP.dadd a b) 4611686018427387904 ≠ 9223372036854775808 := by
  have k1 := ky_1
  have k2 : ky 4611686018427387904 = 4611686018427387904 := by decide +kernel
  have fa : Fn a := by show (ky a).natAbs < _; omega
  have fb : Fn b := by show (ky b).natAbs < _; omega
  have f2 : Fn 4611686018427387904 := by show (ky _).natAbs < _; rw [k2]; decide
  have za := (z_le fa.nm nm_1).mp a1
  have zb := (z_le fb.nm nm_1).mp b1
  have za0 := (z_le nm_00 fa.nm).mp (by rw [ky_00]; exact a0)
  have zb0 := (z_le nm_00 fb.nm).mp (by rw [ky_00]; exact b0)
  have z1 := z_1
  have z2 := z_2
  rw [z_0] at za0 zb0
  have s1 := add_z_le fa fb f2.nm (by rw [z2]; omega)
  have s0 := add_z_ge fa fb nm_00 (by rw [z_0]; omega)
  rw [ky_00] at s0
  have fs : Fn (FP.dadd a b) := by show (ky _).natAbs < _; omega
  have zs := (z_le fs.nm f2.nm).mp s1
  have d := div_z_le (V := FP.dconst1) (k := 1) fs f2 s0 (by omega) fn_1 z_1 (by rw [z2] at *; omega)
  -- no sign of minus
  have sg : (FP.dadd a b).toNat < 2 ^ 63 := by
    refine ky_nn s0 (fun e => ?_)
    have va := FP.Core.val64_dadd a b
    have e' : FP.Core.dadd a b = 9223372036854775808 := e
    rw [e'] at va
    obtain ⟨s, c, q, ha⟩ := fn_fin fa
    obtain ⟨t, dd, r, hb⟩ := fn_fin fb
    have sa := FP.Core.sgn_bits (nm_val.mp fa.nm)
    rw [ha, decide_eq_false (by have := ky_nn a0 an; omega)] at sa
    have sa' : s = false := sa
    subst sa'
    have sb := FP.Core.sgn_bits (nm_val.mp fb.nm)
    rw [hb, decide_eq_false (by have := ky_nn b0 bn; omega)] at sb
    have sb' : t = false := sb
    subst sb'
    rw [ha, hb] at va
    have v8 : FP.Core.val64 9223372036854775808 = .fin true 0 (-1074) := by decide +kernel
    rw [v8] at va
    have := congrArg FP.Core.sgn va
    simp only [FP.Core.exactSum, FP.Core.round, FP.Core.sgn_roundRatio] at this
    simp only [FP.Core.sgn, FP.Core.sumSign, FP.Core.sumUnits, FP.Core.signed] at this
    by_cases w : ((FP.Core.inUnits c q (min q r) : Nat) : Int) + ((FP.Core.inUnits dd r (min q r) : Nat) : Int) = 0
    · have t2 : true = (false && false) := by simpa [w] using this
      exact absurd t2 (by decide)
    · have t2 : true = decide (((FP.Core.inUnits c q (min q r) : Nat) : Int) + ((FP.Core.inUnits dd r (min q r) : Nat) : Int) < 0) := by simpa [w] using this
      have := of_decide_eq_true t2.symm
      omega
  have nd : Nm (FP.ddiv (FP.dadd a b) 4611686018427387904) := d.1.nm
  have dg := div_sg fs f2 sg (by omega) nd
  refine ⟨fs.nm, nd, dg, by omega, fun e => ?_⟩
  -- its bits
  have hd := FP.Core.val64_ddiv (FP.dadd a b) 4611686018427387904
  have e' : FP.Core.ddiv (FP.dadd a b) 4611686018427387904 = 9223372036854775808 := e
  rw [e'] at hd
  obtain ⟨s, c, q, hs⟩ := fn_fin fs
  have ss := FP.Core.sgn_bits (nm_val.mp fs.nm)
  rw [hs, decide_eq_false (by omega)] at ss
  have ss' : s = false := ss
  subst ss'
  have v2 : FP.Core.val64 4611686018427387904 = .fin false (2 ^ 52) (-51) := by decide +kernel
  have v8 : FP.Core.val64 9223372036854775808 = .fin true 0 (-1074) := by decide +kernel
  rw [hs, v2, v8] at hd
  have h52 : ¬ ((2 : Nat) ^ 52 = 0) := by decide
  simp only [FP.Core.quotient, if_neg h52] at hd
  have := congrArg FP.Core.sgn hd
  rw [FP.Core.sgn_roundRatio] at this
  simp [FP.Core.sgn] at this
