/-! ===== THE CLASS: its rows and its reckoner ===== -/
/-- a row of the class: number and none lie behind it -/
def RW (h : Hp) (a N : Nat) : Prop := hpK h a = some (3, 0) ∧ hpR h a 0 = some (a + 1) ∧ hpR h a 1 = some (a + 2) ∧ hpK h (a + 1) = some (10, N) ∧ hpK h (a + 2) = some (12, N)
def RN (h : Hp) (a N : Nat) : Prop := ∀ i, i < N → Nm (hpD h (a + 1) i) ∧ (hpI h (a + 2) i = 0 ∨ hpI h (a + 2) i = 1)
/-- the value in a row -/
def RV (h : Hp) (a i : Nat) : UInt64 := if hpI h (a + 2) i = 0 then hpD h (a + 1) i else nanV
theorem cv_RV {h : Hp} {a N i : Nat} (r : RN h a N) (hi : i < N) : Cv (RV h a i) := by
  unfold RV; split
  · exact Or.inl (r i hi).1
  · exact Or.inr rfl
theorem rw_g0 {h : Hp} {a N : Nat} (H : RW h a N) : getR h (some a) 3 0 = some (some (a + 1)) := by rw [getR_ok H.1, H.2.1]
theorem rw_g1 {h : Hp} {a N : Nat} (H : RW h a N) : getR h (some a) 3 1 = some (some (a + 2)) := by rw [getR_ok H.1, H.2.2.1]
theorem rw_a0 {h : Hp} {a N i : Nat} (H : RW h a N) (hi : i < N) (hN : N < 1000) : aldD h (some (a + 1)) (nI i) = some (hpD h (a + 1) i) := by rw [aldD_ok H.2.2.2.1 (ni_in hi (by omega)), ni_cl (by omega)]
theorem rw_a1 {h : Hp} {a N i : Nat} (H : RW h a N) (hi : i < N) (hN : N < 1000) : aldI h (some (a + 2)) 12 (nI i) = some (hpI h (a + 2) i) := by rw [aldI_ok H.2.2.2.2 (ni_in hi (by omega)), ni_cl (by omega)]
theorem rw_s0 {h : Hp} {a N i : Nat} {v : UInt64} (H : RW h a N) (hi : i < N) (hN : N < 1000) : astD h (some (a + 1)) (nI i) v = some (stD h (a + 1) i v) := by rw [astD_ok H.2.2.2.1 (ni_in hi (by omega)), ni_cl (by omega)]
theorem rw_s1 {h : Hp} {a N i : Nat} {v : Int32} (H : RW h a N) (hi : i < N) (hN : N < 1000) (hv : v = 0 ∨ v = 1) : astZ h (some (a + 2)) (nI i) v = some (stI h (a + 2) i v) := by rw [astZ_ok H.2.2.2.2 (ni_in hi (by omega)), ni_cl (by omega), nar_01 hv]
theorem rw_ck {h : Hp} {a N : Nat} (H : RW h a N) : ab_ck h (some a) (3, 0) = some a := ck_ok H.1
/-- the reckoner -/
def RK (h : Hp) (k : Nat) : Prop := hpK h k = some (2, 0) ∧ hpD h k 0 = 9218868437227405311
theorem rk_ck {h : Hp} {k : Nat} (H : RK h k) : ab_ck h (some k) (2, 0) = some k := ck_ok H.1
def nz (r : UInt64) : UInt64 := if (ky r).natAbs ≤ 9218868437227405312 then r else FP.dconst0
def fg (f : Int32) (r : UInt64) : Int32 := if (ky r).natAbs ≤ 9218868437227405312 then f else 1
def fr (f n : Int32) : Int32 := if f = 0 ∧ n = 0 then 0 else 1
theorem nm_nz (r : UInt64) : Nm (nz r) := by
  unfold nz; split
  · rename_i h; exact h
  · exact nm_0
theorem fg_01 {f : Int32} {r : UInt64} (h : f = 0 ∨ f = 1) : fg f r = 0 ∨ fg f r = 1 := by unfold fg; split; exact h; exact Or.inr rfl
theorem fr_01 (f n : Int32) : fr f n = 0 ∨ fr f n = 1 := by unfold fr; split; exact Or.inl rfl; exact Or.inr rfl
theorem nz_nm {r : UInt64} (h : Nm r) : nz r = r := by unfold nz; exact if_pos h
theorem nz_no {r : UInt64} (h : ¬ Nm r) : nz r = FP.dconst0 := by unfold nz; exact if_neg h
theorem fg_nm {f : Int32} {r : UInt64} (h : Nm r) : fg f r = f := by unfold fg; exact if_pos h
theorem fg_no {f : Int32} {r : UInt64} (h : ¬ Nm r) : fg f r = 1 := by unfold fg; exact if_neg h
theorem c_begin {h : Hp} {k : Nat} {f : Int32} (H : RK h k) : f_X2_begin k (stI h k 1 f) = some ((), stI h k 1 0) := by
  unfold f_X2_begin
  have H' : hpK (stI h k 1 f) k = some (2, 0) := H.1
  rw [putZ_ok H' (Or.inl rfl), Option.bind_some, stI_stI]
theorem c_begin' {h : Hp} {k : Nat} (H : RK h k) : f_X2_begin k h = some ((), stI h k 1 0) := by
  unfold f_X2_begin
  rw [putZ_ok H.1 (Or.inl rfl), Option.bind_some]
theorem c_read {h : Hp} {k a N i : Nat} {f : Int32} (H : RK h k) (R : RW h a N) (hi : i < N) (hN : N < 1000) (hk : k ≠ a + 2) (hf : f = 0 ∨ f = 1) : f_X2_read k (some a) (nI i) (stI h k 1 f) = some (hpD h (a + 1) i, stI h k 1 (fr f (hpI h (a + 2) i))) := by
  have H' : hpK (stI h k 1 f) k = some (2, 0) := H.1
  have R' : RW (stI h k 1 f) a N := R
  have n1 : hpI (stI h k 1 f) (a + 2) i = hpI h (a + 2) i := by rw [hpI_stI_ne (Or.inl (Ne.symm hk))]
  have fin : ∀ w : Int32, (w = 0 ∨ w = 1) → f_X2_read_22 (some a) (nI i) w (some k) (stI h k 1 f) = some (hpD h (a + 1) i, stI h k 1 w) := by
    intro w hw
    unfold f_X2_read_22
    rw [putZ_ok H' hw, Option.bind_some, stI_stI]
    have R2 : RW (stI h k 1 w) a N := R
    rw [rw_g0 R2, Option.bind_some, rw_a0 R2 hi hN, Option.bind_some, hpD_stI]
  unfold f_X2_read f_X2_read_17
  rw [getI_ok H', Option.bind_some, hpI_stI_self]
  rcases hf with rfl | rfl
  · rw [if_neg (by decide), rw_g1 R', Option.bind_some, rw_a1 R' hi hN, Option.bind_some, n1]
    by_cases q : hpI h (a + 2) i = 0
    · rw [if_pos q, fin 0 (Or.inl rfl)]
      unfold fr; rw [if_pos ⟨rfl, q⟩]
    · rw [if_neg q, fin 1 (Or.inr rfl)]
      unfold fr; rw [if_neg (fun z => q z.2)]
  · rw [if_pos (by decide), fin 1 (Or.inr rfl)]
    unfold fr; rw [if_neg (fun z => absurd z.1 (by decide))]
theorem ky_mstn : ky (FP.dneg 9218868437227405311) = -9218868437227405311 := by rw [ky_dneg, ky_most]
theorem nm_mstn : Nm (FP.dneg 9218868437227405311) := nm_dneg.mpr nm_most
/-- comparisons with the greatest finite double -/
theorem gt_most {a : UInt64} (ha : Nm a) : (cl a 9218868437227405311 ≤ 0 ↔ ¬ ky a = 9218868437227405312) ∧ (0 < cl a 9218868437227405311 ↔ ky a = 9218868437227405312) := by
  have h : (ky a).natAbs ≤ 9218868437227405312 := ha
  have k := ky_most
  rw [cl_le, cl_gt, k]
  constructor
  · constructor
    · rintro (q | q)
      · exact absurd ⟨ha, nm_most⟩ q
      · omega
    · intro q; right; omega
  · constructor
    · rintro ⟨-, q⟩; omega
    · intro q; exact ⟨⟨ha, nm_most⟩, by omega⟩
theorem lt_most {a : UInt64} (ha : Nm a) : (0 ≤ cg a (FP.dneg 9218868437227405311) ↔ ¬ ky a = -9218868437227405312) ∧ (cg a (FP.dneg 9218868437227405311) < 0 ↔ ky a = -9218868437227405312) := by
  have h : (ky a).natAbs ≤ 9218868437227405312 := ha
  have k := ky_mstn
  rw [cg_ge, cg_lt, k]
  constructor
  · constructor
    · rintro (q | q)
      · exact absurd ⟨ha, nm_mstn⟩ q
      · omega
    · intro q; right; omega
  · constructor
    · rintro ⟨-, q⟩; omega
    · intro q; exact ⟨⟨ha, nm_mstn⟩, by omega⟩
theorem z_cl {a : UInt64} (ha : Nm a) : cl a FP.dconst0 = 0 ↔ ky a = 0 := by
  rw [cl_eq, ky_0]
  exact ⟨fun q => q.2, fun q => ⟨⟨ha, nm_0⟩, q⟩⟩
theorem c_sum {h : Hp} {k : Nat} {f : Int32} {a b : UInt64} (H : RK h k) (ha : Nm a) (hb : Nm b) : f_X2_sum k a b (stI h k 1 f) = some (nz (FP.dadd a b), stI h k 1 (fg f (FP.dadd a b))) := by
  have H' : hpK (stI h k 1 f) k = some (2, 0) := H.1
  have g : getD (stI h k 1 f) (some k) 2 0 = some 9218868437227405311 := by rw [getD_ok H', hpD_stI, H.2]
  have a' : (ky a).natAbs ≤ 9218868437227405312 := ha
  have b' : (ky b).natAbs ≤ 9218868437227405312 := hb
  have no : ¬ Nm (FP.dadd a b) → some (nz (FP.dadd a b), stI h k 1 (fg f (FP.dadd a b))) = f_X2_sum_38 (some k) (stI h k 1 f) := fun q => by
    unfold f_X2_sum_38
    rw [putZ_ok H' (Or.inr rfl), Option.bind_some, stI_stI, nz_no q, fg_no q]
  have ok : Nm (FP.dadd a b) → some (nz (FP.dadd a b), stI h k 1 (fg f (FP.dadd a b))) = f_X2_sum_45 a b (stI h k 1 f) := fun q => by
    unfold f_X2_sum_45
    rw [fop_ok q, Option.bind_some, nz_nm q, fg_nm q]
  unfold f_X2_sum f_X2_sum_19
  simp only [g, Option.bind_some]
  by_cases p1 : ky a = 9218868437227405312
  · rw [if_neg (fun z => (gt_most ha).1.mp z p1)]
    by_cases p2 : ky b = -9218868437227405312
    · rw [if_pos ((lt_most hb).2.mpr p2)]
      exact (no (fun q => (dadd_nm.mp q).2.2 ⟨by omega, by omega⟩)).symm
    · rw [if_neg (fun z => p2 ((lt_most hb).2.mp z)), if_pos ((lt_most ha).1.mpr (by omega))]
      exact (ok (dadd_nm.mpr ⟨ha, hb, fun q => by omega⟩)).symm
  · rw [if_pos ((gt_most ha).1.mpr p1)]
    by_cases p3 : ky a = -9218868437227405312
    · rw [if_neg (fun z => (lt_most ha).1.mp z p3)]
      by_cases p4 : ky b = 9218868437227405312
      · rw [if_neg (fun z => (gt_most hb).1.mp z p4)]
        exact (no (fun q => (dadd_nm.mp q).2.2 ⟨by omega, by omega⟩)).symm
      · rw [if_pos ((gt_most hb).1.mpr p4)]
        exact (ok (dadd_nm.mpr ⟨ha, hb, fun q => by omega⟩)).symm
    · rw [if_pos ((lt_most ha).1.mpr p3)]
      exact (ok (dadd_nm.mpr ⟨ha, hb, fun q => by omega⟩)).symm
theorem c_difference {h : Hp} {k : Nat} {f : Int32} {a b : UInt64} (H : RK h k) (ha : Nm a) (hb : Nm b) : f_X2_difference k a b (stI h k 1 f) = some (nz (FP.dsub a b), stI h k 1 (fg f (FP.dsub a b))) := by
  have H' : hpK (stI h k 1 f) k = some (2, 0) := H.1
  have g : getD (stI h k 1 f) (some k) 2 0 = some 9218868437227405311 := by rw [getD_ok H', hpD_stI, H.2]
  have a' : (ky a).natAbs ≤ 9218868437227405312 := ha
  have b' : (ky b).natAbs ≤ 9218868437227405312 := hb
  have no : ¬ Nm (FP.dsub a b) → some (nz (FP.dsub a b), stI h k 1 (fg f (FP.dsub a b))) = f_X2_difference_38 (some k) (stI h k 1 f) := fun q => by
    unfold f_X2_difference_38
    rw [putZ_ok H' (Or.inr rfl), Option.bind_some, stI_stI, nz_no q, fg_no q]
  have ok : Nm (FP.dsub a b) → some (nz (FP.dsub a b), stI h k 1 (fg f (FP.dsub a b))) = f_X2_difference_45 a b (stI h k 1 f) := fun q => by
    unfold f_X2_difference_45
    rw [fop_ok q, Option.bind_some, nz_nm q, fg_nm q]
  unfold f_X2_difference f_X2_difference_18
  simp only [g, Option.bind_some]
  by_cases p1 : ky a = 9218868437227405312
  · rw [if_neg (fun z => (gt_most ha).1.mp z p1)]
    by_cases p2 : ky b = 9218868437227405312
    · rw [if_pos ((gt_most hb).2.mpr p2)]
      exact (no (fun q => (dsub_nm.mp q).2.2 ⟨by omega, by omega⟩)).symm
    · rw [if_neg (fun z => p2 ((gt_most hb).2.mp z)), if_pos ((lt_most ha).1.mpr (by omega))]
      exact (ok (dsub_nm.mpr ⟨ha, hb, fun q => by omega⟩)).symm
  · rw [if_pos ((gt_most ha).1.mpr p1)]
    by_cases p3 : ky a = -9218868437227405312
    · rw [if_neg (fun z => (lt_most ha).1.mp z p3)]
      by_cases p4 : ky b = -9218868437227405312
      · rw [if_neg (fun z => (lt_most hb).1.mp z p4)]
        exact (no (fun q => (dsub_nm.mp q).2.2 ⟨by omega, by omega⟩)).symm
      · rw [if_pos ((lt_most hb).1.mpr p4)]
        exact (ok (dsub_nm.mpr ⟨ha, hb, fun q => by omega⟩)).symm
    · rw [if_pos ((lt_most ha).1.mpr p3)]
      exact (ok (dsub_nm.mpr ⟨ha, hb, fun q => by omega⟩)).symm
theorem c_product {h : Hp} {k : Nat} {f : Int32} {a b : UInt64} (H : RK h k) (ha : Nm a) (hb : Nm b) : f_X2_product k a b (stI h k 1 f) = some (nz (FP.dmul a b), stI h k 1 (fg f (FP.dmul a b))) := by
  have H' : hpK (stI h k 1 f) k = some (2, 0) := H.1
  have g : getD (stI h k 1 f) (some k) 2 0 = some 9218868437227405311 := by rw [getD_ok H', hpD_stI, H.2]
  have a' : (ky a).natAbs ≤ 9218868437227405312 := ha
  have b' : (ky b).natAbs ≤ 9218868437227405312 := hb
  have no : ¬ Nm (FP.dmul a b) → some (nz (FP.dmul a b), stI h k 1 (fg f (FP.dmul a b))) = f_X2_product_50 (some k) (stI h k 1 f) := fun q => by
    unfold f_X2_product_50
    rw [putZ_ok H' (Or.inr rfl), Option.bind_some, stI_stI, nz_no q, fg_no q]
  have ok : Nm (FP.dmul a b) → some (nz (FP.dmul a b), stI h k 1 (fg f (FP.dmul a b))) = f_X2_product_57 a b (stI h k 1 f) := fun q => by
    unfold f_X2_product_57
    rw [fop_ok q, Option.bind_some, nz_nm q, fg_nm q]
  have tail : ¬ (ky a = 0 ∧ (ky b).natAbs = 9218868437227405312) → some (nz (FP.dmul a b), stI h k 1 (fg f (FP.dmul a b))) = f_X2_product_25 (some k) a b (stI h k 1 f) := fun q0 => by
    unfold f_X2_product_25
    by_cases z2 : ky b = 0
    · rw [if_neg (fun w => w ((z_cl hb).mpr z2)), g, Option.bind_some]
      by_cases p1 : ky a = 9218868437227405312
      · rw [if_pos ((gt_most ha).2.mpr p1)]
        exact no (fun q => (dmul_nm.mp q).2.2.1 ⟨by omega, z2⟩)
      · rw [if_neg (fun w => p1 ((gt_most ha).2.mp w)), Option.bind_some]
        by_cases p2 : ky a = -9218868437227405312
        · rw [if_neg (fun w => (lt_most ha).1.mp w p2)]
          exact no (fun q => (dmul_nm.mp q).2.2.1 ⟨by omega, z2⟩)
        · rw [if_pos ((lt_most ha).1.mpr p2)]
          exact ok (dmul_nm.mpr ⟨ha, hb, fun q => by omega, q0⟩)
    · rw [if_pos (fun w => z2 ((z_cl hb).mp w))]
      exact ok (dmul_nm.mpr ⟨ha, hb, fun q => z2 q.2, q0⟩)
  unfold f_X2_product
  by_cases z1 : ky a = 0
  · rw [if_neg (fun w => w ((z_cl ha).mpr z1)), g, Option.bind_some]
    by_cases p1 : ky b = 9218868437227405312
    · rw [if_pos ((gt_most hb).2.mpr p1)]
      exact (no (fun q => (dmul_nm.mp q).2.2.2 ⟨z1, by omega⟩)).symm
    · rw [if_neg (fun w => p1 ((gt_most hb).2.mp w)), Option.bind_some]
      by_cases p2 : ky b = -9218868437227405312
      · rw [if_pos ((lt_most hb).2.mpr p2)]
        exact (no (fun q => (dmul_nm.mp q).2.2.2 ⟨z1, by omega⟩)).symm
      · rw [if_neg (fun w => p2 ((lt_most hb).2.mp w))]
        exact (tail (fun q => by omega)).symm
  · rw [if_pos (fun w => z1 ((z_cl ha).mp w))]
    exact (tail (fun q => z1 q.1)).symm
theorem c_quotient {h : Hp} {k : Nat} {f : Int32} {a b : UInt64} (H : RK h k) (ha : Nm a) (hb : Nm b) : f_X2_quotient k a b (stI h k 1 f) = some (nz (FP.ddiv a b), stI h k 1 (fg f (FP.ddiv a b))) := by
  have H' : hpK (stI h k 1 f) k = some (2, 0) := H.1
  have g : getD (stI h k 1 f) (some k) 2 0 = some 9218868437227405311 := by rw [getD_ok H', hpD_stI, H.2]
  have a' : (ky a).natAbs ≤ 9218868437227405312 := ha
  have b' : (ky b).natAbs ≤ 9218868437227405312 := hb
  have no : ¬ Nm (FP.ddiv a b) → some (nz (FP.ddiv a b), stI h k 1 (fg f (FP.ddiv a b))) = f_X2_quotient_62 (some k) (stI h k 1 f) := fun q => by
    unfold f_X2_quotient_62
    rw [putZ_ok H' (Or.inr rfl), Option.bind_some, stI_stI, nz_no q, fg_no q]
  have ok : Nm (FP.ddiv a b) → some (nz (FP.ddiv a b), stI h k 1 (fg f (FP.ddiv a b))) = f_X2_quotient_69 a b (stI h k 1 f) := fun q => by
    unfold f_X2_quotient_69
    rw [fop_ok q, Option.bind_some, nz_nm q, fg_nm q]
  have t42 : ¬ ((ky a).natAbs = 9218868437227405312 ∧ (ky b).natAbs = 9218868437227405312) → f_X2_quotient_42 (some k) a b (stI h k 1 f) = some (nz (FP.ddiv a b), stI h k 1 (fg f (FP.ddiv a b))) := fun q0 => by
    unfold f_X2_quotient_42 f_X2_quotient_43
    rw [if_neg (by decide)]
    by_cases z1 : ky a = 0
    · rw [if_neg (fun w => w ((z_cl ha).mpr z1))]
      by_cases z2 : ky b = 0
      · rw [if_neg (fun w => w ((z_cl hb).mpr z2))]
        exact (no (fun q => (ddiv_nm.mp q).2.2.2 ⟨z1, z2⟩)).symm
      · rw [if_pos (fun w => z2 ((z_cl hb).mp w))]
        exact (ok (ddiv_nm.mpr ⟨ha, hb, q0, fun q => z2 q.2⟩)).symm
    · rw [if_pos (fun w => z1 ((z_cl ha).mp w))]
      exact (ok (ddiv_nm.mpr ⟨ha, hb, q0, fun q => z1 q.1⟩)).symm
  have t38 : ((ky a).natAbs = 9218868437227405312 ∧ (ky b).natAbs = 9218868437227405312) → f_X2_quotient_38 (some k) a b (stI h k 1 f) = some (nz (FP.ddiv a b), stI h k 1 (fg f (FP.ddiv a b))) := fun q0 => by
    unfold f_X2_quotient_38 f_X2_quotient_43
    rw [if_pos (by decide)]
    exact (no (fun q => (ddiv_nm.mp q).2.2.1 q0)).symm
  have t19 : (ky a).natAbs = 9218868437227405312 → f_X2_quotient_19 (some k) a b (stI h k 1 f) = some (nz (FP.ddiv a b), stI h k 1 (fg f (FP.ddiv a b))) := fun q0 => by
    unfold f_X2_quotient_19
    rw [g, Option.bind_some]
    by_cases p1 : ky b = 9218868437227405312
    · rw [if_pos ((gt_most hb).2.mpr p1)]; exact t38 ⟨q0, by omega⟩
    · rw [if_neg (fun w => p1 ((gt_most hb).2.mp w)), Option.bind_some]
      by_cases p2 : ky b = -9218868437227405312
      · rw [if_neg (fun w => (lt_most hb).1.mp w p2)]; exact t38 ⟨q0, by omega⟩
      · rw [if_pos ((lt_most hb).1.mpr p2)]; exact t42 (fun q => by omega)
  unfold f_X2_quotient
  rw [g, Option.bind_some]
  by_cases p1 : ky a = 9218868437227405312
  · rw [if_pos ((gt_most ha).2.mpr p1)]; exact t19 (by omega)
  · rw [if_neg (fun w => p1 ((gt_most ha).2.mp w)), Option.bind_some]
    by_cases p2 : ky a = -9218868437227405312
    · rw [if_neg (fun w => (lt_most ha).1.mp w p2)]; exact t19 (by omega)
    · rw [if_pos ((lt_most ha).1.mpr p2)]; exact t42 (fun q => by omega)
