/-! ===== a sum is -0.0 only where both are ===== -/
theorem dadd_nz {a b : UInt64} (ha : Nm a) (hb : Fn b) (hz : a ≠ 9223372036854775808) : FP.dadd a b ≠ 9223372036854775808 := by
  intro e
  have k8 : ky 9223372036854775808 = 0 := by decide +kernel
  by_cases fa : Fn a
  · have hk : ky (FP.dadd a b) = 0 := by rw [e, k8]
    have s0 : zv a + zv b = 0 := by
      rcases Int.lt_trichotomy (zv a + zv b) 0 with q | q | q
      · have := add_z_le fa hb nm_m1n (by rw [z_m1n]; omega)
        rw [ky_m1n] at this; omega
      · exact q
      · have := add_z_ge fa hb nm_m1 (by rw [z_m1]; omega)
        rw [ky_m1] at this; omega
    have va := FP.Core.val64_dadd a b
    have e' : FP.Core.dadd a b = 9223372036854775808 := e
    rw [e'] at va
    obtain ⟨s, c, q, hva⟩ := fn_fin fa
    obtain ⟨t, dd, r, hvb⟩ := fn_fin hb
    have fta := FP.Core.val64_fits a
    have ftb := FP.Core.val64_fits b
    rw [hva] at fta
    rw [hvb] at ftb
    have v8 : FP.Core.val64 9223372036854775808 = .fin true 0 (-1074) := by decide +kernel
    rw [hva, hvb, v8] at va
    have sg := congrArg FP.Core.sgn va
    simp only [FP.Core.exactSum, FP.Core.round, FP.Core.sgn_roundRatio] at sg
    have sg : true = FP.Core.sumSign s t (FP.Core.sumUnits s c q t dd r (min q r)) := sg
    -- the exact sum is 0
    have q1 := fta.2.1
    have q2 := ftb.2.1
    have za : zv a = FP.Core.signed s (c * 2 ^ (q - FP.Core.b64.qmin).toNat) := by show FP.Core.zval _ _ = _; rw [hva]; rfl
    have zb : zv b = FP.Core.signed t (dd * 2 ^ (r - FP.Core.b64.qmin).toNat) := by show FP.Core.zval _ _ = _; rw [hvb]; rfl
    have sm : FP.Core.signed s (c * 2 ^ (q - FP.Core.b64.qmin).toNat) + FP.Core.signed t (dd * 2 ^ (r - FP.Core.b64.qmin).toNat) = FP.Core.sumUnits s c q t dd r (min q r) * (2 ^ (min q r - FP.Core.b64.qmin).toNat : Nat) := by
      unfold FP.Core.sumUnits FP.Core.inUnits
      have e1 : c * 2 ^ (q - FP.Core.b64.qmin).toNat = c * 2 ^ (q - min q r).toNat * 2 ^ (min q r - FP.Core.b64.qmin).toNat := by
        rw [Nat.mul_assoc, ← Nat.pow_add]; congr 2; omega
      have e2 : dd * 2 ^ (r - FP.Core.b64.qmin).toNat = dd * 2 ^ (r - min q r).toNat * 2 ^ (min q r - FP.Core.b64.qmin).toNat := by
        rw [Nat.mul_assoc, ← Nat.pow_add]; congr 2; omega
      rw [e1, e2]
      generalize c * 2 ^ (q - min q r).toNat = x
      generalize dd * 2 ^ (r - min q r).toNat = y
      generalize 2 ^ (min q r - FP.Core.b64.qmin).toNat = z
      unfold FP.Core.signed
      cases s <;> cases t <;> simp [Int.add_mul, Int.neg_mul]
    have u0 : FP.Core.sumUnits s c q t dd r (min q r) = 0 := by
      have : FP.Core.sumUnits s c q t dd r (min q r) * ((2 ^ (min q r - FP.Core.b64.qmin).toNat : Nat) : Int) = 0 := by rw [← sm, ← za, ← zb]; exact s0
      rcases Int.mul_eq_zero.mp this with w | w
      · exact w
      · exfalso
        have := Nat.two_pow_pos (min q r - FP.Core.b64.qmin).toNat
        omega
    unfold FP.Core.sumSign at sg
    rw [if_pos u0] at sg
    have st : s = true ∧ t = true := by
      clear za zb sm u0 va hva hvb fta ftb
      cases s <;> cases t <;> simp at sg ⊢
    obtain ⟨rfl, rfl⟩ := st
    have ka : zv a = 0 := by
      rw [za, zb] at s0
      rw [za]
      unfold FP.Core.signed at s0 ⊢
      simp only [if_true] at s0 ⊢
      omega
    have kya : ky a = 0 := by
      have h1 := z_le fa.nm nm_00
      have h2 := z_le nm_00 fa.nm
      rw [z_0, ky_00] at h1 h2
      omega
    rcases zero_is kya with rfl | rfl
    · have := FP.Core.sgn_bits (nm_val.mp fa.nm)
      rw [hva] at this
      have t2 : true = decide (2 ^ 63 ≤ (0 : UInt64).toNat) := this
      exact absurd t2 (by decide)
    · exact hz rfl
  · have ka := nfn ha fa
    obtain ⟨s, hs⟩ := inf_ky.mpr ka
    obtain ⟨t, d, r, hv⟩ := fn_fin hb
    have va := FP.Core.val64_dadd a b
    have e' : FP.Core.dadd a b = 9223372036854775808 := e
    rw [e', hs, hv] at va
    have v8 : FP.Core.val64 9223372036854775808 = .fin true 0 (-1074) := by decide +kernel
    rw [v8] at va
    exact absurd va (by simp [FP.Core.exactSum, FP.Core.round])
/-! ===== a run's record is in order: T and B bound what was taken and what fired ===== -/
def mz : UInt64 := 9223372036854775808
def VA (T B n N : Nat) (A : RecT) : Prop :=
  (∃ M, A.1 15 0 = nI M ∧ M ≤ 6) ∧ (∃ ne, A.1 16 0 = nI ne ∧ ne ≤ 4 ∧ ∀ j, j < ne → ∃ q, A.1 30 j = nI q ∧ q < N) ∧
  (∃ tk, A.1 17 0 = nI tk ∧ tk ≤ T ∧ (A.1 22 0 = 1 ↔ 0 < tk)) ∧ (∃ f, A.1 20 0 = nI f ∧ f ≤ B) ∧
  (A.1 21 0 = 0 ∨ A.1 21 0 = 1) ∧ (A.1 22 0 = 0 ∨ A.1 22 0 = 1) ∧
  (Nm (A.2 24 0) ∧ A.2 24 0 ≠ mz) ∧ HB (A.2 25 0) ∧ (Fn (A.2 26 0) ∧ 0 < ky (A.2 26 0)) ∧ (Fn (A.2 27 0) ∧ 0 ≤ ky (A.2 27 0)) ∧ Nm (A.2 28 0) ∧ HB (A.2 38 0) ∧
  (∀ i, i < n → Cv (A.2 29 i)) ∧ (∀ j, j < 64 → Nm (A.2 35 j)) ∧
  (A.1 22 0 = 1 → (∃ M, A.1 36 0 = nI M ∧ M ≤ 6) ∧ (Nm (A.2 37 0) ∧ A.2 37 0 ≠ mz) ∧ (∀ i, i < n → Cv (A.2 39 i) ∧ Cv (A.2 40 i) ∧ Cv (A.2 41 i) ∧ Cv (A.2 42 i) ∧ (∀ j, j < sgN (tc (A.1 36 0)) → Cv (A.2 (100 + j) i)) ∧ (tc (A.1 36 0) = 4 → Cv (A.2 104 i))))
theorem VA.mono {T B T' B' n N : Nat} {A : RecT} (v : VA T B n N A) (h1 : T ≤ T') (h2 : B ≤ B') : VA T' B' n N A := by
  obtain ⟨a1, a2, ⟨tk, a3, a4, a5⟩, ⟨f, a6, a7⟩, a8⟩ := v
  exact ⟨a1, a2, ⟨tk, a3, by omega, a5⟩, ⟨f, a6, by omega⟩, a8⟩
theorem nm_rtO {x z e : Nat → UInt64} {a b : UInt64} {i : Nat} (hx : Nm (x i)) (hz : Fn (z i)) (hxf : Fn (x i)) (he : Fn (e i)) (ha : Fn a ∧ 0 < ky a) (hb : Fn b ∧ 0 ≤ ky b) : Nm (rtO x z e a b i) ∧ Nm (FP.dmul b (mxK (mk (x i)) (mk (z i)))) ∧ Nm (FP.dadd a (FP.dmul b (mxK (mk (x i)) (mk (z i))))) ∧ Nm (FP.ddiv (mk (e i)) (FP.dadd a (FP.dmul b (mxK (mk (x i)) (mk (z i)))))) := by
  have fm : Fn (mxK (mk (x i)) (mk (z i))) := by
    unfold mxK; split
    · exact fn_mk.mpr hz
    · exact fn_mk.mpr hxf
  have n1 : Nm (FP.dmul b (mxK (mk (x i)) (mk (z i)))) := mul_nm hb.1 fm
  have n2 : Nm (FP.dadd a (FP.dmul b (mxK (mk (x i)) (mk (z i))))) := add_nm ha.1 n1
  -- the bound is above 0
  have m0 : 0 ≤ ky (mxK (mk (x i)) (mk (z i))) := by
    unfold mxK; split
    · rw [ky_mk]; omega
    · rw [ky_mk]; omega
  have p0 : 0 ≤ ky (FP.dmul b (mxK (mk (x i)) (mk (z i)))) := by
    obtain ⟨s, c, q, hvb⟩ := fn_fin hb.1
    obtain ⟨t, d, r, hvm⟩ := fn_fin fm
    by_cases z1 : ky b = 0
    · have := FP.Core.dmul_zero (fin_ky.mpr fm) (zero_ky.mpr z1)
      rw [FP.Core.dmul_comm] at this
      have := zero_ky.mp this
      show 0 ≤ ky (FP.Core.dmul b _)
      omega
    · by_cases z2 : ky (mxK (mk (x i)) (mk (z i))) = 0
      · have := zero_ky.mp (FP.Core.dmul_zero (fin_ky.mpr hb.1) (zero_ky.mpr z2))
        show 0 ≤ ky (FP.Core.dmul b _)
        omega
      · -- both signs are plus
        have sb : ¬ 2 ^ 63 ≤ b.toNat := by have h1 := ky_sgn (a := b); have hm := ky_mod b; intro q; rcases h1.mp q with w | w <;> omega
        have sm : ¬ 2 ^ 63 ≤ (mxK (mk (x i)) (mk (z i))).toNat := by have h1 := ky_sgn (a := mxK (mk (x i)) (mk (z i))); have hm := ky_mod (mxK (mk (x i)) (mk (z i))); intro q; rcases h1.mp q with w | w <;> omega
        have s1 := FP.Core.sgn_bits (nm_val.mp hb.1.nm)
        have s2 := FP.Core.sgn_bits (nm_val.mp fm.nm)
        rw [hvb, decide_eq_false sb] at s1
        rw [hvm, decide_eq_false sm] at s2
        have s1' : s = false := s1
        have s2' : t = false := s2
        subst s1'; subst s2'
        have hv : FP.Core.val64 (FP.dmul b (mxK (mk (x i)) (mk (z i)))) = FP.Core.roundRatio FP.Core.b64 false (c * d) 1 (q + r) := by
          show FP.Core.val64 (FP.Core.dmul b _) = _
          rw [FP.Core.val64_dmul, hvb, hvm]; rfl
        have s3 := FP.Core.sgn_bits (nm_val.mp n1)
        rw [hv, FP.Core.sgn_roundRatio] at s3
        have s4 : ¬ 2 ^ 63 ≤ (FP.dmul b (mxK (mk (x i)) (mk (z i)))).toNat := fun q => by rw [decide_eq_true q] at s3; exact absurd s3 (by decide)
        have := ky_sgn (a := FP.dmul b (mxK (mk (x i)) (mk (z i))))
        by_cases w : ky (FP.dmul b (mxK (mk (x i)) (mk (z i)))) < 0
        · exact absurd (this.mpr (Or.inl w)) s4
        · omega
  have a0 : 0 < ky (FP.dadd a (FP.dmul b (mxK (mk (x i)) (mk (z i))))) := by
    by_cases fp : Fn (FP.dmul b (mxK (mk (x i)) (mk (z i))))
    · have za := (z_lt nm_00 ha.1.nm).mp (by rw [ky_00]; exact ha.2)
      have zp := (z_le nm_00 fp.nm).mp (by rw [ky_00]; exact p0)
      rw [z_0] at za zp
      have := add_z_ge ha.1 fp nm_m1 (by rw [z_m1]; omega)
      rw [ky_m1] at this
      omega
    · have kp := nfn n1 fp
      have kp2 : ky (FP.dmul b (mxK (mk (x i)) (mk (z i)))) = 9218868437227405312 := by omega
      obtain ⟨s, c, q, hva⟩ := fn_fin ha.1
      have e : FP.Core.val64 (FP.dadd a (FP.dmul b (mxK (mk (x i)) (mk (z i))))) = .inf false := by
        show FP.Core.val64 (FP.Core.dadd a _) = _
        rw [FP.Core.val64_dadd, hva, infp_ky.mpr kp2]; rfl
      have := infp_ky.mp e
      omega
  have n3 : Nm (FP.ddiv (mk (e i)) (FP.dadd a (FP.dmul b (mxK (mk (x i)) (mk (z i)))))) := ddiv_nm.mpr ⟨(fn_mk.mpr he).nm, n2, fun q => by have := fnk (fn_mk.mpr he); omega, fun q => by omega⟩
  refine ⟨?_, n1, n2, n3⟩
  unfold rtO
  rw [cn_nm n1, cn_nm n2, cn_nm n3]
  exact n3
