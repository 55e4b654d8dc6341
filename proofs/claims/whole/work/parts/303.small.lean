/-! ===== signs, sizes, least and greatest, bits, what is put ===== -/
theorem ky_dneg (a : UInt64) : ky (FP.dneg a) = - ky a := by
  have ha := a.toNat_lt
  have hx : (FP.dneg a).toNat = a.toNat ^^^ 2 ^ 63 := by
    unfold FP.dneg; rw [UInt64.toNat_xor]; rfl
  obtain ⟨h1, h2⟩ := FP.xor_top (a := a.toNat) (k := 63) (by omega)
  unfold ky FP.Core.dkey
  rw [hx]
  by_cases h : a.toNat < 2 ^ 63
  · rw [h1 h]; split <;> split <;> omega
  · rw [h2 (by omega)]; split <;> split <;> omega
theorem nm_dneg {a : UInt64} : Nm (FP.dneg a) ↔ Nm a := by unfold Nm; rw [ky_dneg]; omega
theorem r_turned (a : UInt64) (h : Hp) : f_X9_turned a h = some (cn (FP.dneg a), h) := by
  unfold f_X9_turned f_X9_turned_15
  by_cases ha : Nm a
  · simp [r_isNum1 ha, bnd_some, cn_nm (nm_dneg.mpr ha)]
  · simp [r_isNum0 ha, bnd_some, cn_no (fun q => ha (nm_dneg.mp q)), nanV]
/-- the size: the sign's bit away -/
def mk (v : UInt64) : UInt64 := v &&& 0x7fffffffffffffff
theorem mk_toNat (v : UInt64) : (mk v).toNat = v.toNat % 2 ^ 63 := FP.Core.mask_toNat v
theorem ky_mk (v : UInt64) : ky (mk v) = ((ky v).natAbs : Int) := by
  have h := v.toNat_lt
  have hm := ky_mod v
  have h2 := mk_toNat v
  rw [hm]
  unfold ky FP.Core.dkey
  split <;> omega
theorem nm_mk {v : UInt64} : Nm (mk v) ↔ Nm v := by unfold Nm; rw [ky_mk]; omega
theorem fn_mk {v : UInt64} : Fn (mk v) ↔ Fn v := by unfold Fn; rw [ky_mk]; omega
theorem ky_inj {a b : UInt64} (h : ky a = ky b) (h0 : ky a ≠ 0) : a = b := by
  apply UInt64.toNat_inj.mp
  have ha := a.toNat_lt
  have hb := b.toNat_lt
  unfold ky FP.Core.dkey at h h0
  split at h <;> split at h <;> split at h0 <;> omega
theorem mk_pos {v : UInt64} (h : 0 < ky v) : mk v = v := ky_inj (by rw [ky_mk]; omega) (by rw [ky_mk]; omega)
theorem mk_neg {v : UInt64} (h : ky v < 0) : mk v = FP.dneg v := ky_inj (by rw [ky_mk, ky_dneg]; omega) (by rw [ky_mk]; omega)
theorem mk_zero {v : UInt64} (h : ky v = 0) : mk v = FP.dconst0 := by
  apply UInt64.toNat_inj.mp
  have hm := ky_mod v
  rw [mk_toNat]
  have : FP.dconst0.toNat = 0 := by decide
  omega
theorem mk_nanV : mk nanV = nanV := by decide
theorem r_size {v : UInt64} (hv : Nm v ∨ v = nanV) (h : Hp) : f_X9_size v h = some (mk v, h) := by
  unfold f_X9_size f_X9_size_22
  rcases hv with hv | rfl
  · rcases Int.lt_trichotomy (ky v) 0 with q | q | q
    · have h1 : ¬ 0 ≤ cg v FP.dconst0 := by rw [cg_ge, ky_0]; intro z; rcases z with z | z; exact z ⟨hv, nm_0⟩; omega
      simp [h1, mk_neg q]
    · have h1 : 0 ≤ cg v FP.dconst0 := by rw [cg_ge, ky_0]; right; omega
      have h2 : cl v FP.dconst0 = 0 := by rw [cl_eq, ky_0]; exact ⟨⟨hv, nm_0⟩, q⟩
      simp [h1, h2, mk_zero q]
    · have h1 : 0 ≤ cg v FP.dconst0 := by rw [cg_ge, ky_0]; right; omega
      have h2 : ¬ cl v FP.dconst0 = 0 := by rw [cl_eq, ky_0]; omega
      simp [h1, h2, mk_pos q]
  · have h1 : 0 ≤ cg nanV FP.dconst0 := by rw [cg_ge]; exact Or.inl (fun z => nm_nanV z.1)
    have h2 : ¬ cl nanV FP.dconst0 = 0 := by rw [cl_eq]; exact fun z => nm_nanV z.1.1
    simp [h1, h2, mk_nanV]
def lsV (a b : UInt64) : UInt64 := if (ky a).natAbs ≤ 9218868437227405312 then (if (ky b).natAbs ≤ 9218868437227405312 then (if ky a < ky b then a else if ky b < ky a then b else if 2 ^ 63 ≤ a.toNat then a else b) else b) else a
def gsV (a b : UInt64) : UInt64 := if (ky a).natAbs ≤ 9218868437227405312 then (if (ky b).natAbs ≤ 9218868437227405312 then (if ky a < ky b then b else if ky b < ky a then a else if 2 ^ 63 ≤ a.toNat then b else a) else b) else a
theorem ky_1 : ky FP.dconst1 = 4607182418800017408 := by decide +kernel
theorem nm_1 : Nm FP.dconst1 := by unfold Nm; decide +kernel
theorem one_by {a : UInt64} (ha : Nm a) : Nm (FP.ddiv FP.dconst1 a) := ddiv_nm.mpr ⟨nm_1, ha, fun q => by rw [ky_1] at q; omega, fun q => by rw [ky_1] at q; omega⟩
theorem zero_is {a : UInt64} (h : ky a = 0) : a = 0 ∨ a = 9223372036854775808 := by
  have ha := a.toNat_lt
  have hm := ky_mod a
  rcases (by omega : a.toNat = 0 ∨ a.toNat = 2 ^ 63) with q | q
  · left; apply UInt64.toNat_inj.mp; rw [q]; rfl
  · right; apply UInt64.toNat_inj.mp; rw [q]; rfl
theorem inv_0 : ky (FP.ddiv FP.dconst1 0) = 9218868437227405312 := by decide +kernel
theorem inv_n : ky (FP.ddiv FP.dconst1 9223372036854775808) = -9218868437227405312 := by decide +kernel
theorem r_least (a b : UInt64) (h : Hp) : f_X9_least a b h = some (lsV a b, h) := by
  unfold f_X9_least f_X9_least_37 f_X9_least_49 lsV
  by_cases ha : Nm a
  · have ea : cl a a = 0 := cl_eq.mpr ⟨⟨ha, ha⟩, rfl⟩
    have ha' : (ky a).natAbs ≤ 9218868437227405312 := ha
    by_cases hb : Nm b
    · have eb : cl b b = 0 := cl_eq.mpr ⟨⟨hb, hb⟩, rfl⟩
      have hb' : (ky b).natAbs ≤ 9218868437227405312 := hb
      by_cases e : cl a b = 0
      · have k := (cl_eq.mp e).2
        simp only [ea, eb, e, if_pos ha', if_pos hb', not_true_eq_false, if_false, if_true, fop_ok (one_by ha), fop_ok (one_by hb), Option.bind_some]
        rw [if_neg (by omega : ¬ ky a < ky b), if_neg (by omega : ¬ ky b < ky a)]
        by_cases z : ky a = 0
        · rcases zero_is z with rfl | rfl <;> rcases zero_is (k ▸ z) with rfl | rfl
          · simp
          · simp [cg_ge, inv_0, inv_n]
          · have : ¬ 0 ≤ cg (FP.ddiv FP.dconst1 9223372036854775808) (FP.ddiv FP.dconst1 0) := by
              rw [cg_ge, inv_0, inv_n]; intro q; rcases q with q | q
              · exact q ⟨one_by ha, one_by hb⟩
              · omega
            simp only [if_neg this]; simp
          · simp
        · have : a = b := ky_inj k z
          subst this
          simp
      · have k : ¬ ky a = ky b := fun q => e (cl_eq.mpr ⟨⟨ha, hb⟩, q⟩)
        by_cases q : 0 ≤ cg a b
        · have q2 : ky b ≤ ky a := by rw [cg_ge] at q; rcases q with q | q; exact absurd ⟨ha, hb⟩ q; exact q
          simp [ea, eb, e, ha', hb', q, show ¬ ky a < ky b by omega, show ky b < ky a by omega]
        · have q2 : ¬ ky b ≤ ky a := fun z => q (cg_ge.mpr (Or.inr z))
          simp [ea, eb, e, ha', hb', q, show ky a < ky b by omega]
    · have eb : ¬ cl b b = 0 := fun q => hb (cl_eq.mp q).1.1
      have hb' : ¬ (ky b).natAbs ≤ 9218868437227405312 := hb
      simp [ea, eb, ha', hb']
  · have ea : ¬ cl a a = 0 := fun q => ha (cl_eq.mp q).1.1
    have ha' : ¬ (ky a).natAbs ≤ 9218868437227405312 := ha
    simp [ea, ha']
theorem r_greatest (a b : UInt64) (h : Hp) : f_X9_greatest a b h = some (gsV a b, h) := by
  unfold f_X9_greatest f_X9_greatest_37 f_X9_greatest_49 gsV
  by_cases ha : Nm a
  · have ea : cl a a = 0 := cl_eq.mpr ⟨⟨ha, ha⟩, rfl⟩
    have ha' : (ky a).natAbs ≤ 9218868437227405312 := ha
    by_cases hb : Nm b
    · have eb : cl b b = 0 := cl_eq.mpr ⟨⟨hb, hb⟩, rfl⟩
      have hb' : (ky b).natAbs ≤ 9218868437227405312 := hb
      by_cases e : cl a b = 0
      · have k := (cl_eq.mp e).2
        simp only [ea, eb, e, if_pos ha', if_pos hb', not_true_eq_false, if_false, if_true, fop_ok (one_by ha), fop_ok (one_by hb), Option.bind_some]
        rw [if_neg (by omega : ¬ ky a < ky b), if_neg (by omega : ¬ ky b < ky a)]
        by_cases z : ky a = 0
        · rcases zero_is z with rfl | rfl <;> rcases zero_is (k ▸ z) with rfl | rfl
          · simp
          · simp [cg_ge, inv_0, inv_n]
          · have : ¬ 0 ≤ cg (FP.ddiv FP.dconst1 9223372036854775808) (FP.ddiv FP.dconst1 0) := by
              rw [cg_ge, inv_0, inv_n]; intro q; rcases q with q | q
              · exact q ⟨one_by ha, one_by hb⟩
              · omega
            simp only [if_neg this]; simp
          · simp
        · have : a = b := ky_inj k z
          subst this
          simp
      · have k : ¬ ky a = ky b := fun q => e (cl_eq.mpr ⟨⟨ha, hb⟩, q⟩)
        by_cases q : 0 ≤ cg a b
        · have q2 : ky b ≤ ky a := by rw [cg_ge] at q; rcases q with q | q; exact absurd ⟨ha, hb⟩ q; exact q
          simp [ea, eb, e, ha', hb', q, show ¬ ky a < ky b by omega, show ky b < ky a by omega]
        · have q2 : ¬ ky b ≤ ky a := fun z => q (cg_ge.mpr (Or.inr z))
          simp [ea, eb, e, ha', hb', q, show ky a < ky b by omega]
    · have eb : ¬ cl b b = 0 := fun q => hb (cl_eq.mp q).1.1
      have hb' : ¬ (ky b).natAbs ≤ 9218868437227405312 := hb
      simp [ea, eb, ha', hb']
  · have ea : ¬ cl a a = 0 := fun q => ha (cl_eq.mp q).1.1
    have ha' : ¬ (ky a).natAbs ≤ 9218868437227405312 := ha
    simp [ea, ha']
/-- what is told of a value -/
def tell (v : UInt64) : Int64 := if (ky v).natAbs ≤ 9218868437227405312 then v.toInt64 else 9221120237041090560
theorem r_bits (v : UInt64) (h : Hp) : f_X9_bits v h = some (tell v, h) := by
  unfold f_X9_bits f_X9_bits_16 tell f_Jxe99ae_doubleToLongBits_ccdee f_Jxe99ae_isNaN_b9ae7 f_Jxe99ae_isNaN_b9ae7_11
  by_cases hv : Nm v
  · have e : cl v v = 0 := cl_eq.mpr ⟨⟨hv, hv⟩, rfl⟩
    have hv' : (ky v).natAbs ≤ 9218868437227405312 := hv
    simp [e, bnd_some, hv']
  · have e : ¬ cl v v = 0 := fun q => hv (cl_eq.mp q).1.1
    have hv' : ¬ (ky v).natAbs ≤ 9218868437227405312 := hv
    simp [e, hv']
theorem fop32_ok {r : UInt32} (h : FP.fIsNaN r = false) : fop32 r = some r := by
  unfold fop32
  rw [if_pos]
  have h1 := (FP.Core.ne_nan32 r).mp ((FP.Core.notNaN_iff32 r).mp h)
  rw [UInt32.le_iff_toNat_le]
  have : (r &&& 0x7fffffff).toNat = r.toNat % 2 ^ 31 := by
    rw [UInt32.toNat_and]
    exact Nat.and_two_pow_sub_one_eq_mod r.toNat 31
  rw [this]
  exact h1
theorem nm_d2f {v : UInt64} (h : Nm v) : FP.fIsNaN (FP.d2f v) = false := by
  rw [FP.d2f_core (nm_is.mp h)]
  exact FP.Core.d2f_out (nm_is.mp h)
theorem nm_f2d {r : UInt32} (h : FP.fIsNaN r = false) : Nm (FP.f2d r) := by
  rw [nm_is, FP.f2d_core h]
  exact FP.Core.f2d_out h
/-- a value put into a variable that is narrow, or not -/
def pV (nar : Bool) (v : UInt64) : UInt64 := if nar = true ∧ (ky v).natAbs ≤ 9218868437227405312 then FP.f2d (FP.d2f v) else v
def narB (nar : Int32) (i : Int32) : Bool := decide (((nar >>> (i &&& 31)) &&& 1) = 1)
