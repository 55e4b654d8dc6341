/-! ===== doubles by their keys: one whole number each, in the order of the doubles ===== -/
abbrev ky (a : UInt64) : Int := FP.Core.dkey a
abbrev INF : Int := 9218868437227405312
/-- a is a number -/
def Nm (a : UInt64) : Prop := (ky a).natAbs ≤ 9218868437227405312
def nanV : UInt64 := 9221120237041090560
theorem ky_mod (a : UInt64) : (ky a).natAbs = a.toNat % 2 ^ 63 := by
  have h := a.toNat_lt
  unfold ky FP.Core.dkey
  split <;> omega
theorem nan_ky {a : UInt64} : FP.Core.val64 a = .nan ↔ 9218868437227405312 < (ky a).natAbs := by
  rw [← FP.Core.dIsNaN_iff, FP.Core.isNaN_bits, ky_mod]
theorem nm_val {a : UInt64} : Nm a ↔ FP.Core.val64 a ≠ .nan := by
  unfold Nm
  rw [Ne, nan_ky]
  omega
theorem nm_not {a : UInt64} : ¬ Nm a ↔ FP.Core.val64 a = .nan := by
  unfold Nm
  rw [nan_ky]
  omega
theorem nm_is {a : UInt64} : Nm a ↔ FP.dIsNaN a = false := by
  rw [nm_val]
  exact (FP.Core.notNaN_iff a).symm
theorem fin_ky {a : UInt64} : FP.Core.DFin a ↔ (ky a).natAbs < 9218868437227405312 := by
  rw [FP.Core.fin_bits, ky_mod]
theorem zero_ky {a : UInt64} : FP.Core.DZero a ↔ ky a = 0 := by
  rw [FP.Core.zero_bits2, ← ky_mod]
  omega
theorem inf_ky {a : UInt64} : (∃ s, FP.Core.val64 a = .inf s) ↔ (ky a).natAbs = 9218868437227405312 := by
  constructor
  · rintro ⟨s, hs⟩
    have h1 : ¬ 9218868437227405312 < (ky a).natAbs := by rw [← nan_ky, hs]; simp
    have h2 : ¬ (ky a).natAbs < 9218868437227405312 := by
      rw [← fin_ky]
      rintro ⟨s', c, q, h⟩
      rw [hs] at h
      cases h
    omega
  · intro h
    have h1 : ¬ FP.Core.val64 a = .nan := by rw [nan_ky]; omega
    have h2 : ¬ FP.Core.DFin a := by rw [fin_ky]; omega
    cases hv : FP.Core.val64 a with
    | nan => exact absurd hv h1
    | inf s => exact ⟨s, rfl⟩
    | fin s c q => exact absurd ⟨s, c, q, hv⟩ h2
theorem ky_sgn {a : UInt64} : 2 ^ 63 ≤ a.toNat ↔ (ky a < 0 ∨ a.toNat = 2 ^ 63) := by
  have h := a.toNat_lt
  unfold ky FP.Core.dkey
  split <;> omega
theorem infp_ky {a : UInt64} : FP.Core.val64 a = .inf false ↔ ky a = 9218868437227405312 := by
  have hk := ky_sgn (a := a)
  have hm := ky_mod a
  constructor
  · intro h
    have h1 := inf_ky.mp ⟨false, h⟩
    have h2 := FP.Core.sgn_bits (a := a) (by rw [h]; simp)
    rw [h] at h2
    simp [FP.Core.sgn] at h2
    omega
  · intro h
    obtain ⟨s, hs⟩ := inf_ky.mpr (by omega : (ky a).natAbs = 9218868437227405312)
    have h2 := FP.Core.sgn_bits (a := a) (by rw [hs]; simp)
    rw [hs] at h2
    cases s with
    | false => exact hs
    | true =>
      simp [FP.Core.sgn] at h2
      omega
theorem infn_ky {a : UInt64} : FP.Core.val64 a = .inf true ↔ ky a = -9218868437227405312 := by
  have hk := ky_sgn (a := a)
  have hm := ky_mod a
  constructor
  · intro h
    have h1 := inf_ky.mp ⟨true, h⟩
    have h2 := FP.Core.sgn_bits (a := a) (by rw [h]; simp)
    rw [h] at h2
    simp [FP.Core.sgn] at h2
    omega
  · intro h
    obtain ⟨s, hs⟩ := inf_ky.mpr (by omega : (ky a).natAbs = 9218868437227405312)
    have h2 := FP.Core.sgn_bits (a := a) (by rw [hs]; simp)
    rw [hs] at h2
    cases s with
    | true => exact hs
    | false =>
      simp [FP.Core.sgn] at h2
      omega
theorem dcmp_ky {a b : UInt64} (ha : Nm a) (hb : Nm b) : FP.dcmp a b = some (compare (ky a) (ky b)) := FP.Core.dcmp_key (nm_val.mp ha) (nm_val.mp hb)
theorem dcmp_no {a b : UInt64} (h : ¬ (Nm a ∧ Nm b)) : FP.dcmp a b = none := by
  refine (FP.Core.dcmp_none a b).mpr ?_
  by_cases ha : Nm a
  · exact Or.inr (nm_not.mp (fun hb => h ⟨ha, hb⟩))
  · exact Or.inl (nm_not.mp ha)
abbrev cl (a b : UInt64) : Int32 := Op.cmpValue (FP.dcmp a b) CmpOp.l
abbrev cg (a b : UInt64) : Int32 := Op.cmpValue (FP.dcmp a b) CmpOp.g
theorem cmp_lt0 {i j : Int} {o : CmpOp} : Op.cmpValue (some (compare i j)) o < 0 ↔ i < j := by
  rcases Int.lt_trichotomy i j with h | h | h
  · rw [(FP.Core.compare_lt_iff i j).mpr h]; simp [Op.cmpValue, h]
  · rw [(FP.Core.compare_eq_iff i j).mpr h]; simp [Op.cmpValue, h]
  · rw [(FP.Core.compare_gt_iff i j).mpr h]; simp [Op.cmpValue]; omega
theorem cmp_eq0 {i j : Int} {o : CmpOp} : Op.cmpValue (some (compare i j)) o = 0 ↔ i = j := by
  rcases Int.lt_trichotomy i j with h | h | h
  · rw [(FP.Core.compare_lt_iff i j).mpr h]; simp [Op.cmpValue]; omega
  · rw [(FP.Core.compare_eq_iff i j).mpr h]; simp [Op.cmpValue, h]
  · rw [(FP.Core.compare_gt_iff i j).mpr h]; simp [Op.cmpValue]; omega
theorem cmp_gt0 {i j : Int} {o : CmpOp} : 0 < Op.cmpValue (some (compare i j)) o ↔ j < i := by
  rcases Int.lt_trichotomy i j with h | h | h
  · rw [(FP.Core.compare_lt_iff i j).mpr h]; simp [Op.cmpValue]; omega
  · rw [(FP.Core.compare_eq_iff i j).mpr h]; simp [Op.cmpValue, h]
  · rw [(FP.Core.compare_gt_iff i j).mpr h]; simp [Op.cmpValue, h]
theorem cmp_le0 {i j : Int} {o : CmpOp} : Op.cmpValue (some (compare i j)) o ≤ 0 ↔ i ≤ j := by
  rw [← Int32.not_lt, cmp_gt0]; omega
theorem cmp_ge0 {i j : Int} {o : CmpOp} : 0 ≤ Op.cmpValue (some (compare i j)) o ↔ j ≤ i := by
  rw [← Int32.not_lt, cmp_lt0]; omega
theorem cl_lt {a b : UInt64} : cl a b < 0 ↔ ¬ (Nm a ∧ Nm b) ∨ ky a < ky b := by
  by_cases h : Nm a ∧ Nm b
  · simp only [cl, dcmp_ky h.1 h.2, cmp_lt0]; simp [h]
  · simp only [cl, dcmp_no h]; simp [h, Op.cmpValue]
theorem cl_eq {a b : UInt64} : cl a b = 0 ↔ (Nm a ∧ Nm b) ∧ ky a = ky b := by
  by_cases h : Nm a ∧ Nm b
  · simp only [cl, dcmp_ky h.1 h.2, cmp_eq0]; simp [h]
  · simp only [cl, dcmp_no h]; simp [h, Op.cmpValue]
theorem cl_gt {a b : UInt64} : 0 < cl a b ↔ (Nm a ∧ Nm b) ∧ ky b < ky a := by
  by_cases h : Nm a ∧ Nm b
  · simp only [cl, dcmp_ky h.1 h.2, cmp_gt0]; simp [h]
  · simp only [cl, dcmp_no h]; simp [h, Op.cmpValue]
theorem cl_le {a b : UInt64} : cl a b ≤ 0 ↔ ¬ (Nm a ∧ Nm b) ∨ ky a ≤ ky b := by
  by_cases h : Nm a ∧ Nm b
  · simp only [cl, dcmp_ky h.1 h.2, cmp_le0]; simp [h]
  · simp only [cl, dcmp_no h]; simp [h, Op.cmpValue]
theorem cl_ge {a b : UInt64} : 0 ≤ cl a b ↔ (Nm a ∧ Nm b) ∧ ky b ≤ ky a := by
  by_cases h : Nm a ∧ Nm b
  · simp only [cl, dcmp_ky h.1 h.2, cmp_ge0]; simp [h]
  · simp only [cl, dcmp_no h]; simp [h, Op.cmpValue]
theorem cg_lt {a b : UInt64} : cg a b < 0 ↔ (Nm a ∧ Nm b) ∧ ky a < ky b := by
  by_cases h : Nm a ∧ Nm b
  · simp only [cg, dcmp_ky h.1 h.2, cmp_lt0]; simp [h]
  · simp only [cg, dcmp_no h]; simp [h, Op.cmpValue]
theorem cg_eq {a b : UInt64} : cg a b = 0 ↔ (Nm a ∧ Nm b) ∧ ky a = ky b := by
  by_cases h : Nm a ∧ Nm b
  · simp only [cg, dcmp_ky h.1 h.2, cmp_eq0]; simp [h]
  · simp only [cg, dcmp_no h]; simp [h, Op.cmpValue]
theorem cg_gt {a b : UInt64} : 0 < cg a b ↔ ¬ (Nm a ∧ Nm b) ∨ ky b < ky a := by
  by_cases h : Nm a ∧ Nm b
  · simp only [cg, dcmp_ky h.1 h.2, cmp_gt0]; simp [h]
  · simp only [cg, dcmp_no h]; simp [h, Op.cmpValue]
theorem cg_le {a b : UInt64} : cg a b ≤ 0 ↔ (Nm a ∧ Nm b) ∧ ky a ≤ ky b := by
  by_cases h : Nm a ∧ Nm b
  · simp only [cg, dcmp_ky h.1 h.2, cmp_le0]; simp [h]
  · simp only [cg, dcmp_no h]; simp [h, Op.cmpValue]
theorem cg_ge {a b : UInt64} : 0 ≤ cg a b ↔ ¬ (Nm a ∧ Nm b) ∨ ky b ≤ ky a := by
  by_cases h : Nm a ∧ Nm b
  · simp only [cg, dcmp_ky h.1 h.2, cmp_ge0]; simp [h]
  · simp only [cg, dcmp_no h]; simp [h, Op.cmpValue]
/-- the one not-a-number -/
def cn (v : UInt64) : UInt64 := if FP.dIsNaN v = true then nanV else v
theorem cn_nm {v : UInt64} (h : Nm v) : cn v = v := by simp [cn, nm_is.mp h]
theorem cn_no {v : UInt64} (h : ¬ Nm v) : cn v = nanV := by
  have : FP.dIsNaN v = true := by
    cases hv : FP.dIsNaN v with
    | true => rfl
    | false => exact absurd (nm_is.mpr hv) h
  simp [cn, this]
theorem nm_nanV : ¬ Nm nanV := by unfold Nm; decide +kernel
theorem fop_ok {r : UInt64} (h : Nm r) : fop r = some r := by
  unfold fop
  rw [if_pos]
  rw [UInt64.le_iff_toNat_le, FP.Core.mask_toNat, ← ky_mod]
  exact h
theorem ab_nin {p q : Prop} (h : ¬ p ↔ ¬ q) : p ↔ q := ⟨fun a => Classical.byContradiction fun c => h.mpr c a, fun a => Classical.byContradiction fun c => h.mp c a⟩
theorem dadd_nm {a b : UInt64} : Nm (FP.dadd a b) ↔ Nm a ∧ Nm b ∧ ¬ ((ky a).natAbs = 9218868437227405312 ∧ ky b = - ky a) := by
  refine ab_nin ?_
  rw [nm_not, ← FP.Core.dIsNaN_iff, FP.Core.dadd_nan_iff]
  constructor
  · rintro (h | h | ⟨s, h1, h2⟩)
    · exact fun q => nm_not.mpr h q.1
    · exact fun q => nm_not.mpr h q.2.1
    · rintro ⟨-, -, q⟩
      cases s with
      | false => rw [infp_ky] at h1; rw [Bool.not_false, infn_ky] at h2; omega
      | true => rw [infn_ky] at h1; rw [Bool.not_true, infp_ky] at h2; omega
  · intro q
    by_cases ha : Nm a
    · by_cases hb : Nm b
      · refine Or.inr (Or.inr ?_)
        have q2 : (ky a).natAbs = 9218868437227405312 ∧ ky b = - ky a := by
          by_cases z : (ky a).natAbs = 9218868437227405312 ∧ ky b = - ky a
          · exact z
          · exact absurd ⟨ha, hb, z⟩ q
        rcases (by omega : ky a = 9218868437227405312 ∨ ky a = -9218868437227405312) with z | z
        · exact ⟨false, infp_ky.mpr z, infn_ky.mpr (by omega)⟩
        · exact ⟨true, infn_ky.mpr z, infp_ky.mpr (by omega)⟩
      · exact Or.inr (Or.inl (nm_not.mp hb))
    · exact Or.inl (nm_not.mp ha)
theorem dsub_nm {a b : UInt64} : Nm (FP.dsub a b) ↔ Nm a ∧ Nm b ∧ ¬ ((ky a).natAbs = 9218868437227405312 ∧ ky b = ky a) := by
  refine ab_nin ?_
  rw [nm_not, ← FP.Core.dIsNaN_iff, FP.Core.dsub_nan_iff]
  constructor
  · rintro (h | h | ⟨s, h1, h2⟩)
    · exact fun q => nm_not.mpr h q.1
    · exact fun q => nm_not.mpr h q.2.1
    · rintro ⟨-, -, q⟩
      cases s with
      | false => rw [infp_ky] at h1 h2; omega
      | true => rw [infn_ky] at h1 h2; omega
  · intro q
    by_cases ha : Nm a
    · by_cases hb : Nm b
      · refine Or.inr (Or.inr ?_)
        have q2 : (ky a).natAbs = 9218868437227405312 ∧ ky b = ky a := by
          by_cases z : (ky a).natAbs = 9218868437227405312 ∧ ky b = ky a
          · exact z
          · exact absurd ⟨ha, hb, z⟩ q
        rcases (by omega : ky a = 9218868437227405312 ∨ ky a = -9218868437227405312) with z | z
        · exact ⟨false, infp_ky.mpr z, infp_ky.mpr (by omega)⟩
        · exact ⟨true, infn_ky.mpr z, infn_ky.mpr (by omega)⟩
      · exact Or.inr (Or.inl (nm_not.mp hb))
    · exact Or.inl (nm_not.mp ha)
theorem dmul_nm {a b : UInt64} : Nm (FP.dmul a b) ↔ Nm a ∧ Nm b ∧ ¬ ((ky a).natAbs = 9218868437227405312 ∧ ky b = 0) ∧ ¬ (ky a = 0 ∧ (ky b).natAbs = 9218868437227405312) := by
  refine ab_nin ?_
  rw [nm_not, ← FP.Core.dIsNaN_iff, FP.Core.dmul_nan_iff]
  constructor
  · rintro (h | h | ⟨s, h1, h2⟩ | ⟨s, h1, h2⟩)
    · exact fun q => nm_not.mpr h q.1
    · exact fun q => nm_not.mpr h q.2.1
    · exact fun q => q.2.2.1 ⟨inf_ky.mp ⟨s, h1⟩, zero_ky.mp h2⟩
    · exact fun q => q.2.2.2 ⟨zero_ky.mp h1, inf_ky.mp ⟨s, h2⟩⟩
  · intro q
    by_cases ha : Nm a
    · by_cases hb : Nm b
      · refine Or.inr (Or.inr ?_)
        by_cases z : (ky a).natAbs = 9218868437227405312 ∧ ky b = 0
        · obtain ⟨s, hs⟩ := inf_ky.mpr z.1
          exact Or.inl ⟨s, hs, zero_ky.mpr z.2⟩
        · by_cases z2 : ky a = 0 ∧ (ky b).natAbs = 9218868437227405312
          · obtain ⟨s, hs⟩ := inf_ky.mpr z2.2
            exact Or.inr ⟨s, zero_ky.mpr z2.1, hs⟩
          · exact absurd ⟨ha, hb, z, z2⟩ q
      · exact Or.inr (Or.inl (nm_not.mp hb))
    · exact Or.inl (nm_not.mp ha)
theorem ddiv_nm {a b : UInt64} : Nm (FP.ddiv a b) ↔ Nm a ∧ Nm b ∧ ¬ ((ky a).natAbs = 9218868437227405312 ∧ (ky b).natAbs = 9218868437227405312) ∧ ¬ (ky a = 0 ∧ ky b = 0) := by
  refine ab_nin ?_
  rw [nm_not, ← FP.Core.dIsNaN_iff, FP.Core.ddiv_nan_iff]
  constructor
  · rintro (h | h | ⟨s, t, h1, h2⟩ | ⟨h1, h2⟩)
    · exact fun q => nm_not.mpr h q.1
    · exact fun q => nm_not.mpr h q.2.1
    · exact fun q => q.2.2.1 ⟨inf_ky.mp ⟨s, h1⟩, inf_ky.mp ⟨t, h2⟩⟩
    · exact fun q => q.2.2.2 ⟨zero_ky.mp h1, zero_ky.mp h2⟩
  · intro q
    by_cases ha : Nm a
    · by_cases hb : Nm b
      · refine Or.inr (Or.inr ?_)
        by_cases z : (ky a).natAbs = 9218868437227405312 ∧ (ky b).natAbs = 9218868437227405312
        · obtain ⟨s, hs⟩ := inf_ky.mpr z.1
          obtain ⟨t, ht⟩ := inf_ky.mpr z.2
          exact Or.inl ⟨s, t, hs, ht⟩
        · by_cases z2 : ky a = 0 ∧ ky b = 0
          · exact Or.inr ⟨zero_ky.mpr z2.1, zero_ky.mpr z2.2⟩
          · exact absurd ⟨ha, hb, z, z2⟩ q
      · exact Or.inr (Or.inl (nm_not.mp hb))
    · exact Or.inl (nm_not.mp ha)
