/-! ===== the reference's small functions ===== -/
def Fn (a : UInt64) : Prop := (ky a).natAbs < 9218868437227405312
theorem Fn.nm {a : UInt64} (h : Fn a) : Nm a := Nat.le_of_lt h
theorem ky_most : ky 9218868437227405311 = 9218868437227405311 := by decide +kernel
theorem ky_mostn : ky 18442240474082181119 = -9218868437227405311 := by decide +kernel
theorem ky_0 : ky FP.dconst0 = 0 := by decide +kernel
theorem ky_00 : ky 0 = 0 := by decide +kernel
theorem nm_most : Nm 9218868437227405311 := by unfold Nm; decide +kernel
theorem nm_mostn : Nm 18442240474082181119 := by unfold Nm; decide +kernel
theorem nm_0 : Nm FP.dconst0 := by unfold Nm; decide +kernel
theorem r_in (v lo hi : Int32) (h : Hp) : f_X9_in v lo hi h = some (if lo ≤ v ∧ v ≤ hi then 1 else 0, h) := by
  unfold f_X9_in f_X9_in_14 f_X9_in_15
  by_cases h1 : v < lo
  · have : ¬ lo ≤ v := Int32.not_le.mpr h1
    simp [h1, this]
  · have g1 : lo ≤ v := Int32.not_lt.mp h1
    by_cases h2 : hi < v
    · have : ¬ v ≤ hi := Int32.not_le.mpr h2
      simp [h1, h2, this]
    · have g2 : v ≤ hi := Int32.not_lt.mp h2
      simp [h1, h2, g1, g2]
theorem r_isNum1 {v : UInt64} (hv : Nm v) (h : Hp) : f_X9_isNumber v h = some (1, h) := by
  have : cl v v = 0 := cl_eq.mpr ⟨⟨hv, hv⟩, rfl⟩
  simp [f_X9_isNumber, f_X9_isNumber_11, this]
theorem r_isNum0 {v : UInt64} (hv : ¬ Nm v) (h : Hp) : f_X9_isNumber v h = some (0, h) := by
  have : ¬ cl v v = 0 := fun q => hv (cl_eq.mp q).1.1
  simp [f_X9_isNumber, f_X9_isNumber_11, this]
theorem r_isFin1 {v : UInt64} (hv : Fn v) (h : Hp) : f_X9_isFinite v h = some (1, h) := by
  have hk : (ky v).natAbs < 9218868437227405312 := hv
  have h1 : ¬ cl v 18442240474082181119 < 0 := by rw [cl_lt, ky_mostn]; intro q; rcases q with q | q; exact q ⟨hv.nm, nm_mostn⟩; omega
  have h2 : ¬ 0 < cg v 9218868437227405311 := by rw [cg_gt, ky_most]; intro q; rcases q with q | q; exact q ⟨hv.nm, nm_most⟩; omega
  simp [f_X9_isFinite, f_X9_isFinite_20, f_X9_isFinite_21, h1, h2]
theorem r_isFin0 {v : UInt64} (hv : ¬ Fn v) (h : Hp) : f_X9_isFinite v h = some (0, h) := by
  have hk : ¬ (ky v).natAbs < 9218868437227405312 := hv
  by_cases h1 : cl v 18442240474082181119 < 0
  · simp [f_X9_isFinite, f_X9_isFinite_20, f_X9_isFinite_21, h1]
  · have h2 : 0 < cg v 9218868437227405311 := by
      rw [cg_gt, ky_most]
      rw [cl_lt, ky_mostn] at h1
      by_cases hn : Nm v
      · right
        have : ¬ ky v < -9218868437227405311 := fun q => h1 (Or.inr q)
        omega
      · exact Or.inl (fun q => hn q.1)
    simp [f_X9_isFinite, f_X9_isFinite_20, f_X9_isFinite_21, h1, h2]
theorem r_plus (a b : UInt64) (h : Hp) : f_X9_plus a b h = some (cn (FP.dadd a b), h) := by
  unfold f_X9_plus f_X9_plus_34 f_X9_plus_38 f_X9_plus_39 f_X9_plus_55
  by_cases ha : Nm a
  · by_cases hb : Nm b
    · by_cases fa : Fn a
      · have hr : Nm (FP.dadd a b) := dadd_nm.mpr ⟨ha, hb, fun q => by have : (ky a).natAbs < 9218868437227405312 := fa; omega⟩
        simp [r_isNum1 ha, r_isNum1 hb, r_isFin1 fa, bnd_some, fop_ok hr, cn_nm hr]
      · by_cases fb : Fn b
        · have hr : Nm (FP.dadd a b) := dadd_nm.mpr ⟨ha, hb, fun q => by have : (ky b).natAbs < 9218868437227405312 := fb; omega⟩
          simp [r_isNum1 ha, r_isNum1 hb, r_isFin0 fa, r_isFin1 fb, bnd_some, fop_ok hr, cn_nm hr]
        · have ka : (ky a).natAbs = 9218868437227405312 := by have h1 : ¬ (ky a).natAbs < 9218868437227405312 := fa; have h2 : (ky a).natAbs ≤ 9218868437227405312 := ha; omega
          have kb : (ky b).natAbs = 9218868437227405312 := by have h1 : ¬ (ky b).natAbs < 9218868437227405312 := fb; have h2 : (ky b).natAbs ≤ 9218868437227405312 := hb; omega
          by_cases e : cl a b = 0
          · have e2 := (cl_eq.mp e).2
            have hr : Nm (FP.dadd a b) := dadd_nm.mpr ⟨ha, hb, fun q => by omega⟩
            simp [r_isNum1 ha, r_isNum1 hb, r_isFin0 fa, r_isFin0 fb, bnd_some, e, fop_ok hr, cn_nm hr]
          · have e2 : ¬ ky a = ky b := fun q => e (cl_eq.mpr ⟨⟨ha, hb⟩, q⟩)
            have hr : ¬ Nm (FP.dadd a b) := fun q => (dadd_nm.mp q).2.2 ⟨ka, by omega⟩
            simp [r_isNum1 ha, r_isNum1 hb, r_isFin0 fa, r_isFin0 fb, bnd_some, e, cn_no hr, nanV]
    · have hr : ¬ Nm (FP.dadd a b) := fun q => hb (dadd_nm.mp q).2.1
      simp [r_isNum1 ha, r_isNum0 hb, bnd_some, cn_no hr, nanV]
  · have hr : ¬ Nm (FP.dadd a b) := fun q => ha (dadd_nm.mp q).1
    simp [r_isNum0 ha, bnd_some, cn_no hr, nanV]
theorem r_less (a b : UInt64) (h : Hp) : f_X9_less a b h = some (cn (FP.dsub a b), h) := by
  unfold f_X9_less f_X9_less_27 f_X9_less_31 f_X9_less_32 f_X9_less_48
  by_cases ha : Nm a
  · by_cases hb : Nm b
    · by_cases fa : Fn a
      · have hr : Nm (FP.dsub a b) := dsub_nm.mpr ⟨ha, hb, fun q => by have : (ky a).natAbs < 9218868437227405312 := fa; omega⟩
        simp [r_isNum1 ha, r_isNum1 hb, r_isFin1 fa, bnd_some, fop_ok hr, cn_nm hr]
      · have ka : (ky a).natAbs = 9218868437227405312 := by have h1 : ¬ (ky a).natAbs < 9218868437227405312 := fa; have h2 : (ky a).natAbs ≤ 9218868437227405312 := ha; omega
        by_cases e : cl a b = 0
        · have e2 := (cl_eq.mp e).2
          have hr : ¬ Nm (FP.dsub a b) := fun q => (dsub_nm.mp q).2.2 ⟨ka, by omega⟩
          simp [r_isNum1 ha, r_isNum1 hb, r_isFin0 fa, bnd_some, e, cn_no hr, nanV]
        · have e2 : ¬ ky a = ky b := fun q => e (cl_eq.mpr ⟨⟨ha, hb⟩, q⟩)
          have hr : Nm (FP.dsub a b) := dsub_nm.mpr ⟨ha, hb, fun q => by omega⟩
          simp [r_isNum1 ha, r_isNum1 hb, r_isFin0 fa, bnd_some, e, fop_ok hr, cn_nm hr]
    · have hr : ¬ Nm (FP.dsub a b) := fun q => hb (dsub_nm.mp q).2.1
      simp [r_isNum1 ha, r_isNum0 hb, bnd_some, cn_no hr, nanV]
  · have hr : ¬ Nm (FP.dsub a b) := fun q => ha (dsub_nm.mp q).1
    simp [r_isNum0 ha, bnd_some, cn_no hr, nanV]
theorem nfn {a : UInt64} (ha : Nm a) (fa : ¬ Fn a) : (ky a).natAbs = 9218868437227405312 := by
  have h1 : ¬ (ky a).natAbs < 9218868437227405312 := fa
  have h2 : (ky a).natAbs ≤ 9218868437227405312 := ha
  omega
theorem fnk {a : UInt64} (fa : Fn a) : (ky a).natAbs < 9218868437227405312 := fa
theorem r_times (a b : UInt64) (h : Hp) : f_X9_times a b h = some (cn (FP.dmul a b), h) := by
  unfold f_X9_times f_X9_times_27 f_X9_times_40 f_X9_times_44 f_X9_times_45 f_X9_times_61
  by_cases ha : Nm a
  · by_cases hb : Nm b
    · by_cases za : cl a FP.dconst0 = 0
      · have ka : ky a = 0 := by rw [(cl_eq.mp za).2, ky_0]
        have fa : Fn a := by show (ky a).natAbs < _; omega
        by_cases fb : Fn b
        · have hr : Nm (FP.dmul a b) := dmul_nm.mpr ⟨ha, hb, fun q => by have := fnk fa; omega, fun q => by have := fnk fb; omega⟩
          by_cases zb : cl b FP.dconst0 = 0
          · simp [r_isNum1 ha, r_isNum1 hb, za, zb, r_isFin1 fa, r_isFin1 fb, bnd_some, fop_ok hr, cn_nm hr]
          · simp [r_isNum1 ha, r_isNum1 hb, za, zb, r_isFin1 fa, r_isFin1 fb, bnd_some, fop_ok hr, cn_nm hr]
        · have hr : ¬ Nm (FP.dmul a b) := fun q => (dmul_nm.mp q).2.2.2 ⟨ka, nfn hb fb⟩
          simp [r_isNum1 ha, r_isNum1 hb, za, r_isFin0 fb, bnd_some, cn_no hr, nanV]
      · have ka : ¬ ky a = 0 := fun q => za (cl_eq.mpr ⟨⟨ha, nm_0⟩, by rw [q, ky_0]⟩)
        by_cases zb : cl b FP.dconst0 = 0
        · have kb : ky b = 0 := by rw [(cl_eq.mp zb).2, ky_0]
          by_cases fa : Fn a
          · have hr : Nm (FP.dmul a b) := dmul_nm.mpr ⟨ha, hb, fun q => by have := fnk fa; omega, fun q => by omega⟩
            simp [r_isNum1 ha, r_isNum1 hb, za, zb, r_isFin1 fa, bnd_some, fop_ok hr, cn_nm hr]
          · have hr : ¬ Nm (FP.dmul a b) := fun q => (dmul_nm.mp q).2.2.1 ⟨nfn ha fa, kb⟩
            simp [r_isNum1 ha, r_isNum1 hb, za, zb, r_isFin0 fa, bnd_some, cn_no hr, nanV]
        · have kb : ¬ ky b = 0 := fun q => zb (cl_eq.mpr ⟨⟨hb, nm_0⟩, by rw [q, ky_0]⟩)
          have hr : Nm (FP.dmul a b) := dmul_nm.mpr ⟨ha, hb, fun q => kb q.2, fun q => ka q.1⟩
          simp [r_isNum1 ha, r_isNum1 hb, za, zb, bnd_some, fop_ok hr, cn_nm hr]
    · have hr : ¬ Nm (FP.dmul a b) := fun q => hb (dmul_nm.mp q).2.1
      simp [r_isNum1 ha, r_isNum0 hb, bnd_some, cn_no hr, nanV]
  · have hr : ¬ Nm (FP.dmul a b) := fun q => ha (dmul_nm.mp q).1
    simp [r_isNum0 ha, bnd_some, cn_no hr, nanV]
theorem r_by (a b : UInt64) (h : Hp) : f_X9_by a b h = some (cn (FP.ddiv a b), h) := by
  unfold f_X9_by f_X9_by_26 f_X9_by_40 f_X9_by_44 f_X9_by_45 f_X9_by_61
  by_cases ha : Nm a
  · by_cases hb : Nm b
    · by_cases za : cl a FP.dconst0 = 0
      · have ka : ky a = 0 := by rw [(cl_eq.mp za).2, ky_0]
        have fa : Fn a := by show (ky a).natAbs < _; omega
        by_cases zb : cl b FP.dconst0 = 0
        · have kb : ky b = 0 := by rw [(cl_eq.mp zb).2, ky_0]
          have hr : ¬ Nm (FP.ddiv a b) := fun q => (ddiv_nm.mp q).2.2.2 ⟨ka, kb⟩
          simp [r_isNum1 ha, r_isNum1 hb, za, zb, bnd_some, cn_no hr, nanV]
        · have kb : ¬ ky b = 0 := fun q => zb (cl_eq.mpr ⟨⟨hb, nm_0⟩, by rw [q, ky_0]⟩)
          have hr : Nm (FP.ddiv a b) := ddiv_nm.mpr ⟨ha, hb, fun q => by have := fnk fa; omega, fun q => kb q.2⟩
          simp [r_isNum1 ha, r_isNum1 hb, za, zb, r_isFin1 fa, bnd_some, fop_ok hr, cn_nm hr]
      · have ka : ¬ ky a = 0 := fun q => za (cl_eq.mpr ⟨⟨ha, nm_0⟩, by rw [q, ky_0]⟩)
        by_cases fa : Fn a
        · have hr : Nm (FP.ddiv a b) := ddiv_nm.mpr ⟨ha, hb, fun q => by have := fnk fa; omega, fun q => ka q.1⟩
          simp [r_isNum1 ha, r_isNum1 hb, za, r_isFin1 fa, bnd_some, fop_ok hr, cn_nm hr]
        · by_cases fb : Fn b
          · have hr : Nm (FP.ddiv a b) := ddiv_nm.mpr ⟨ha, hb, fun q => by have := fnk fb; omega, fun q => ka q.1⟩
            simp [r_isNum1 ha, r_isNum1 hb, za, r_isFin0 fa, r_isFin1 fb, bnd_some, fop_ok hr, cn_nm hr]
          · have hr : ¬ Nm (FP.ddiv a b) := fun q => (ddiv_nm.mp q).2.2.1 ⟨nfn ha fa, nfn hb fb⟩
            simp [r_isNum1 ha, r_isNum1 hb, za, r_isFin0 fa, r_isFin0 fb, bnd_some, cn_no hr, nanV]
    · have hr : ¬ Nm (FP.ddiv a b) := fun q => hb (ddiv_nm.mp q).2.1
      simp [r_isNum1 ha, r_isNum0 hb, bnd_some, cn_no hr, nanV]
  · have hr : ¬ Nm (FP.ddiv a b) := fun q => ha (ddiv_nm.mp q).1
    simp [r_isNum0 ha, bnd_some, cn_no hr, nanV]
