/-! ===== the class's small methods ===== -/
theorem dsub0 {a : UInt64} (ha : Nm a) (h : ky a ≤ 0) : FP.dsub FP.dconst0 a = mk a := by
  rw [dsub_is]
  by_cases z : ky a = 0
  · rw [mk_zero z]
    rcases zero_is z with rfl | rfl <;> decide +kernel
  · rw [mk_neg (by omega)]
    have hn : Nm (FP.dneg a) := nm_dneg.mpr ha
    have h1 : FP.Core.dadd (FP.dneg a) FP.Core.dconst0 = FP.dneg a := FP.Core.dadd_zero (nm_val.mp hn) (fun e => by
      have k : ky (FP.dneg a) = 0 := by rw [e]; decide +kernel
      rw [ky_dneg] at k
      omega)
    rw [FP.Core.dadd_comm] at h1
    exact h1
theorem c_size {a : UInt64} (ha : Nm a) (h : Hp) : f_X8_size a h = some (mk a, h) := by
  unfold f_X8_size f_X8_size_13
  by_cases q : 0 < cg a FP.dconst0
  · rw [if_pos q]
    have : 0 < ky a := by
      rw [cg_gt, ky_0] at q
      rcases q with q | q
      · exact absurd ⟨ha, nm_0⟩ q
      · exact q
    rw [mk_pos this]
  · rw [if_neg q]
    have : ky a ≤ 0 := by
      rw [cg_gt, ky_0] at q
      exact Int.not_lt.mp (fun z => q (Or.inr z))
    rw [dsub0 ha this, fop_ok (nm_mk.mpr ha), Option.bind_some]
theorem inv_neg {a : UInt64} (ha : ky a = 0) : (0 ≤ cg (FP.ddiv FP.dconst1 a) FP.dconst0 ↔ ¬ 2 ^ 63 ≤ a.toNat) := by
  have na : Nm a := by show (ky a).natAbs ≤ _; rw [ha]; decide
  rw [cg_ge, ky_0]
  rcases zero_is ha with rfl | rfl
  · rw [inv_0]
    constructor
    · intro _; decide
    · intro _; right; decide
  · rw [inv_n]
    constructor
    · rintro (q | q)
      · exact absurd ⟨one_by na, nm_0⟩ q
      · omega
    · intro q; exact absurd (by decide) q
theorem c_lesser {k : Nat} {a b : UInt64} (ha : Nm a) (hb : Nm b) (h : Hp) : f_X2_lesser k a b h = some (lsV a b, h) := by
  have a' : (ky a).natAbs ≤ 9218868437227405312 := ha
  have b' : (ky b).natAbs ≤ 9218868437227405312 := hb
  have tail : ¬ (ky a = 0 ∧ ky b = 0) → f_X2_lesser_26 a b h = some (lsV a b, h) := fun q0 => by
    unfold f_X2_lesser_26 f_X2_lesser_37 lsV
    rw [if_pos a', if_pos b']
    by_cases q : 0 < cg a b
    · have q2 : ky b < ky a := by
        rw [cg_gt] at q
        rcases q with q | q
        · exact absurd ⟨ha, hb⟩ q
        · exact q
      rw [if_pos q, if_neg (by omega), if_pos q2]
    · have q2 : ky a ≤ ky b := by rw [cg_gt] at q; exact Int.not_lt.mp (fun z => q (Or.inr z))
      rw [if_neg q]
      by_cases e : ky a < ky b
      · rw [if_pos e]
      · rw [if_neg e, if_neg (by omega)]
        have eq : a = b := ky_inj (by omega) (fun z => q0 ⟨z, by omega⟩)
        subst eq
        split <;> rfl
  unfold f_X2_lesser
  by_cases z1 : ky a = 0
  · rw [if_neg (fun w => w ((z_cl ha).mpr z1))]
    by_cases z2 : ky b = 0
    · rw [if_neg (fun w => w ((z_cl hb).mpr z2)), fop_ok (one_by ha), Option.bind_some]
      unfold f_X2_lesser_25 lsV
      rw [if_pos a', if_pos b', if_neg (show ¬ ky a < ky b by omega), if_neg (show ¬ ky b < ky a by omega)]
      by_cases q : 2 ^ 63 ≤ a.toNat
      · rw [if_neg (fun w => (inv_neg z1).mp w q), if_pos q]
      · rw [if_pos ((inv_neg z1).mpr q), if_neg q]
    · rw [if_pos (fun w => z2 ((z_cl hb).mp w))]; exact tail (fun q => z2 q.2)
  · rw [if_pos (fun w => z1 ((z_cl ha).mp w))]; exact tail (fun q => z1 q.1)
theorem c_greater {k : Nat} {a b : UInt64} (ha : Nm a) (hb : Nm b) (h : Hp) : f_X2_greater k a b h = some (gsV a b, h) := by
  have a' : (ky a).natAbs ≤ 9218868437227405312 := ha
  have b' : (ky b).natAbs ≤ 9218868437227405312 := hb
  have tail : ¬ (ky a = 0 ∧ ky b = 0) → f_X2_greater_26 a b h = some (gsV a b, h) := fun q0 => by
    unfold f_X2_greater_26 f_X2_greater_37 gsV
    rw [if_pos a', if_pos b']
    by_cases q : cl a b < 0
    · have q2 : ky a < ky b := by
        rw [cl_lt] at q
        rcases q with q | q
        · exact absurd ⟨ha, hb⟩ q
        · exact q
      rw [if_pos q, if_pos q2]
    · have q2 : ky b ≤ ky a := by rw [cl_lt] at q; exact Int.not_lt.mp (fun z => q (Or.inr z))
      rw [if_neg q, if_neg (by omega)]
      by_cases e : ky b < ky a
      · rw [if_pos e]
      · rw [if_neg e]
        have eq : a = b := ky_inj (by omega) (fun z => q0 ⟨z, by omega⟩)
        subst eq
        split <;> rfl
  unfold f_X2_greater
  by_cases z1 : ky a = 0
  · rw [if_neg (fun w => w ((z_cl ha).mpr z1))]
    by_cases z2 : ky b = 0
    · rw [if_neg (fun w => w ((z_cl hb).mpr z2)), fop_ok (one_by ha), Option.bind_some]
      unfold f_X2_greater_25 gsV
      rw [if_pos a', if_pos b', if_neg (show ¬ ky a < ky b by omega), if_neg (show ¬ ky b < ky a by omega)]
      by_cases q : 2 ^ 63 ≤ a.toNat
      · rw [if_neg (fun w => (inv_neg z1).mp w q), if_pos q]
      · rw [if_pos ((inv_neg z1).mpr q), if_neg q]
    · rw [if_pos (fun w => z2 ((z_cl hb).mp w))]; exact tail (fun q => z2 q.2)
  · rw [if_pos (fun w => z1 ((z_cl ha).mp w))]; exact tail (fun q => z1 q.1)
theorem pw_ok {a : UInt64} (ha : Nm a) : ∀ k, Nm (pwV a k) ∧ (ky a = 0 → Fn (pwV a k)) ∧ ((ky a).natAbs = 9218868437227405312 → ky (pwV a k) ≠ 0) ∧ Nm (FP.dmul (pwV a k) a) := by
  intro k
  induction k with
  | zero =>
    have f1 : Fn (pwV a 0) := fn_1
    refine ⟨nm_1, fun _ => f1, fun _ => by show ky FP.dconst1 ≠ 0; rw [ky_1]; decide, dmul_nm.mpr ⟨nm_1, ha, fun q => by have := fnk f1; omega, fun q => ?_⟩⟩
    have := q.1
    rw [show pwV a 0 = FP.dconst1 from rfl, ky_1] at this
    omega
  | succ k ih =>
    obtain ⟨i1, i2, i3, i4⟩ := ih
    have e : pwV a (k + 1) = FP.dmul (pwV a k) a := by rw [pwV, cn_nm i4]
    have f0 : ky a = 0 → ky (FP.dmul (pwV a k) a) = 0 := fun z => zero_ky.mp (FP.Core.dmul_zero (fin_ky.mpr (i2 z)) (zero_ky.mpr z))
    have fi : (ky a).natAbs = 9218868437227405312 → ky (FP.dmul (pwV a k) a) ≠ 0 := fun z => by
      obtain ⟨t, ht⟩ := inf_ky.mpr z
      have n0 := i3 z
      have hv : ∃ s, FP.Core.val64 (FP.dmul (pwV a k) a) = .inf s := by
        show ∃ s, FP.Core.val64 (FP.Core.dmul (pwV a k) a) = .inf s
        rw [FP.Core.val64_dmul, ht]
        cases hp : FP.Core.val64 (pwV a k) with
        | nan => exact absurd hp (nm_val.mp i1)
        | inf s => exact ⟨_, rfl⟩
        | fin s c q =>
          have : c ≠ 0 := by
            rintro rfl
            exact n0 (zero_ky.mp ⟨s, q, hp⟩)
          simp only [FP.Core.exactProduct, if_neg this]
          exact ⟨_, rfl⟩
      have := inf_ky.mp hv
      omega
    refine ⟨by rw [e]; exact i4, fun z => by rw [e]; show (ky _).natAbs < _; rw [f0 z]; decide, fun z => by rw [e]; exact fi z, ?_⟩
    rw [e]
    refine dmul_nm.mpr ⟨i4, ha, fun q => ?_, fun q => ?_⟩
    · have := f0 q.2; omega
    · exact fi q.2 q.1
theorem c_power {k : Nat} {a : UInt64} (ha : Nm a) (M : Nat) (hM : M < 100) (h : Hp) : f_X2_power k a (nI M) h = some (pwV a M, h) := by
  unfold f_X2_power
  have key : ∀ (d j n : Nat), j + d = M → d < n → f_X2_power_6 n a (nI M) (pwV a j) (nI j) h = some (pwV a M, h) := by
    intro d
    induction d with
    | zero =>
      intro j n hj hn
      obtain ⟨n, rfl⟩ : ∃ j, n = j + 1 := ⟨n - 1, by omega⟩
      have : j = M := by omega
      subst this
      rw [f_X2_power_6, if_pos ((ni_le (by omega) (by omega)).mpr (Nat.le_refl _))]
    | succ d ih =>
      intro j n hj hn
      obtain ⟨n, rfl⟩ : ∃ j, n = j + 1 := ⟨n - 1, by omega⟩
      have i4 := (pw_ok ha j).2.2.2
      rw [f_X2_power_6, if_neg (by rw [ni_le (by omega) (by omega)]; omega), fop_ok i4, Option.bind_some, li1, ni_add]
      have := ih (j + 1) n (by omega) (by omega)
      rw [pwV, cn_nm i4] at this
      exact this
  exact key M 0 fuelN (by omega) (by unfold fuelN; omega)
/-- flag, number and value -/
def Ev (f : Int32) (x X : UInt64) : Prop := (f = 0 ∧ X = x ∧ Nm x) ∨ (f = 1 ∧ Nm x ∧ X = nanV)
theorem Ev.nm {f : Int32} {x X : UInt64} (h : Ev f x X) : Nm x := by rcases h with ⟨-, -, h⟩ | ⟨-, h, -⟩ <;> exact h
theorem Ev.f01 {f : Int32} {x X : UInt64} (h : Ev f x X) : f = 0 ∨ f = 1 := by rcases h with ⟨h, -⟩ | ⟨h, -⟩; exact Or.inl h; exact Or.inr h
theorem Ev.cv {f : Int32} {x X : UInt64} (h : Ev f x X) : Cv X := by
  rcases h with ⟨-, h, q⟩ | ⟨-, -, h⟩
  · rw [h]; exact Or.inl q
  · exact Or.inr h
theorem ev_num {x : UInt64} (h : Nm x) : Ev 0 x x := Or.inl ⟨rfl, rfl, h⟩
/-- one value behind an operation with a number -/
theorem ev_op {op : UInt64 → UInt64 → UInt64} (hop : ∀ a b, Nm (op a b) → Nm a ∧ Nm b) {f : Int32} {x X : UInt64} {c : UInt64} (h : Ev f x X) : Ev (fg f (op x c)) (nz (op x c)) (cn (op X c)) := by
  rcases h with ⟨rfl, rfl, h⟩ | ⟨rfl, h, rfl⟩
  · by_cases q : Nm (op X c)
    · rw [fg_nm q, nz_nm q, cn_nm q]; exact Or.inl ⟨rfl, rfl, q⟩
    · rw [fg_no q, nz_no q, cn_no q]; exact Or.inr ⟨rfl, nm_0, rfl⟩
  · have q2 : ¬ Nm (op nanV c) := fun z => nm_nanV (hop _ _ z).1
    have q3 : fg 1 (op x c) = 1 := by unfold fg; split <;> rfl
    rw [q3, cn_no q2]
    exact Or.inr ⟨rfl, nm_nz _, rfl⟩
theorem ev_op' {op : UInt64 → UInt64 → UInt64} (hop : ∀ a b, Nm (op a b) → Nm a ∧ Nm b) {f : Int32} {x X : UInt64} {c : UInt64} (h : Ev f x X) : Ev (fg f (op c x)) (nz (op c x)) (cn (op c X)) := by
  rcases h with ⟨rfl, rfl, h⟩ | ⟨rfl, h, rfl⟩
  · by_cases q : Nm (op c X)
    · rw [fg_nm q, nz_nm q, cn_nm q]; exact Or.inl ⟨rfl, rfl, q⟩
    · rw [fg_no q, nz_no q, cn_no q]; exact Or.inr ⟨rfl, nm_0, rfl⟩
  · have q2 : ¬ Nm (op c nanV) := fun z => nm_nanV (hop _ _ z).2
    have q3 : fg 1 (op c x) = 1 := by unfold fg; split <;> rfl
    rw [q3, cn_no q2]
    exact Or.inr ⟨rfl, nm_nz _, rfl⟩
theorem hop_add (a b : UInt64) (h : Nm (FP.dadd a b)) : Nm a ∧ Nm b := ⟨(dadd_nm.mp h).1, (dadd_nm.mp h).2.1⟩
theorem hop_sub (a b : UInt64) (h : Nm (FP.dsub a b)) : Nm a ∧ Nm b := ⟨(dsub_nm.mp h).1, (dsub_nm.mp h).2.1⟩
theorem hop_mul (a b : UInt64) (h : Nm (FP.dmul a b)) : Nm a ∧ Nm b := ⟨(dmul_nm.mp h).1, (dmul_nm.mp h).2.1⟩
theorem hop_div (a b : UInt64) (h : Nm (FP.ddiv a b)) : Nm a ∧ Nm b := ⟨(ddiv_nm.mp h).1, (ddiv_nm.mp h).2.1⟩
/-- two values side by side -/
def Ev2 (f : Int32) (x X y Y : UInt64) : Prop := Nm x ∧ Nm y ∧ ((f = 0 ∧ X = x ∧ Y = y) ∨ (f = 1 ∧ (X = nanV ∨ Y = nanV)))
theorem ev2_op {op : UInt64 → UInt64 → UInt64} (hop : ∀ a b, Nm (op a b) → Nm a ∧ Nm b) {f : Int32} {x X y Y : UInt64} (h : Ev2 f x X y Y) : Ev (fg f (op x y)) (nz (op x y)) (cn (op X Y)) := by
  obtain ⟨nx, ny, h⟩ := h
  rcases h with ⟨rfl, rfl, rfl⟩ | ⟨rfl, h⟩
  · by_cases q : Nm (op X Y)
    · rw [fg_nm q, nz_nm q, cn_nm q]; exact Or.inl ⟨rfl, rfl, q⟩
    · rw [fg_no q, nz_no q, cn_no q]; exact Or.inr ⟨rfl, nm_0, rfl⟩
  · have q2 : ¬ Nm (op X Y) := fun z => by
      rcases h with rfl | rfl
      · exact nm_nanV (hop _ _ z).1
      · exact nm_nanV (hop _ _ z).2
    have q3 : fg 1 (op x y) = 1 := by unfold fg; split <;> rfl
    rw [q3, cn_no q2]
    exact Or.inr ⟨rfl, nm_nz _, rfl⟩
theorem ev2_sw {f : Int32} {x X y Y : UInt64} (h : Ev2 f x X y Y) : Ev2 f y Y x X := by
  obtain ⟨nx, ny, h⟩ := h
  refine ⟨ny, nx, ?_⟩
  rcases h with ⟨a, b, c⟩ | ⟨a, b | b⟩
  · exact Or.inl ⟨a, c, b⟩
  · exact Or.inr ⟨a, Or.inr b⟩
  · exact Or.inr ⟨a, Or.inl b⟩
/-- reading a value of a row behind another value -/
theorem ev_read {h : Hp} {a N i : Nat} {f : Int32} {x X : UInt64} (r : RN h a N) (hi : i < N) (e : Ev f x X) : Ev2 (fr f (hpI h (a + 2) i)) x X (hpD h (a + 1) i) (RV h a i) := by
  refine ⟨e.nm, (r i hi).1, ?_⟩
  unfold RV
  rcases e with ⟨rfl, rfl, q⟩ | ⟨rfl, q, rfl⟩
  · rcases (r i hi).2 with z | z
    · rw [z, if_pos rfl]; exact Or.inl ⟨by unfold fr; rw [if_pos ⟨rfl, rfl⟩], rfl, rfl⟩
    · rw [z, if_neg (by decide)]; exact Or.inr ⟨by unfold fr; rw [if_neg (fun w => absurd w.2 (by decide))], Or.inr rfl⟩
  · exact Or.inr ⟨by unfold fr; rw [if_neg (fun w => absurd w.1 (by decide))], Or.inl rfl⟩
theorem ev_read0 {h : Hp} {a N i : Nat} (r : RN h a N) (hi : i < N) : Ev (fr 0 (hpI h (a + 2) i)) (hpD h (a + 1) i) (RV h a i) := by
  unfold RV
  rcases (r i hi).2 with z | z
  · rw [z, if_pos rfl]; exact Or.inl ⟨by unfold fr; rw [if_pos ⟨rfl, rfl⟩], rfl, (r i hi).1⟩
  · rw [z, if_neg (by decide)]; exact Or.inr ⟨by unfold fr; rw [if_neg (fun w => absurd w.2 (by decide))], (r i hi).1, rfl⟩
/-- a value is written -/
def wrV (h : Hp) (a i : Nat) (X : UInt64) : Hp := stD (stI h (a + 2) i (if (ky X).natAbs ≤ 9218868437227405312 then 0 else 1)) (a + 1) i (nz X)
theorem c_put {h : Hp} {a N i : Nat} {f nar : Int32} {x X : UInt64} (R : RW h a N) (hi : i < N) (hN : N < 1000) (e : Ev f x X) : f_X3_put a (nI i) x f nar h = some ((), wrV h a i (pV (decide (nar ≠ 0)) X)) := by
  unfold f_X3_put f_X3_put_40 f_X3_put_41
  rw [rw_g1 R, Option.bind_some, rw_s1 R hi hN e.f01, Option.bind_some]
  have R' : RW (stI h (a + 2) i f) a N := R
  unfold wrV
  rcases e with ⟨rfl, rfl, q⟩ | ⟨rfl, q, rfl⟩
  · rw [if_pos rfl, rw_g0 R', Option.bind_some]
    have q' : (ky X).natAbs ≤ 9218868437227405312 := q
    by_cases z : nar = 0
    · have pe : pV (decide (nar ≠ 0)) X = X := by unfold pV; rw [if_neg (by simp [z])]
      rw [if_pos z, rw_s0 R' hi hN, Option.bind_some, pe, if_pos q', nz_nm q]
    · have pe : pV (decide (nar ≠ 0)) X = FP.f2d (FP.d2f X) := by unfold pV; rw [if_pos ⟨by simp [z], q'⟩]
      have n2 := nm_f2d (nm_d2f q)
      have n2' : (ky (FP.f2d (FP.d2f X))).natAbs ≤ 9218868437227405312 := n2
      rw [if_neg z, fop32_ok (nm_d2f q), Option.bind_some, fop_ok n2, Option.bind_some, rw_s0 R' hi hN, Option.bind_some, pe, if_pos n2', nz_nm n2]
  · have n1 : ¬ (ky nanV).natAbs ≤ 9218868437227405312 := nm_nanV
    have pe : pV (decide (nar ≠ 0)) nanV = nanV := by unfold pV; rw [if_neg (fun w => n1 w.2)]
    rw [if_neg (by decide), rw_g0 R', Option.bind_some, rw_s0 R' hi hN, Option.bind_some, pe, if_neg n1, nz_no nm_nanV]
theorem RV_wrV {h : Hp} {a i : Nat} {X : UInt64} (hX : Cv X) (j : Nat) : RV (wrV h a i X) a j = if j = i then X else RV h a j := by
  unfold RV wrV
  rw [hpI_stD]
  by_cases e : j = i
  · subst e
    rw [hpI_stI_self, hpD_stD_self, if_pos rfl]
    rcases hX with q | rfl
    · have q' : (ky X).natAbs ≤ 9218868437227405312 := q
      rw [if_pos q', if_pos rfl, nz_nm q]
    · have n1 : ¬ (ky nanV).natAbs ≤ 9218868437227405312 := nm_nanV
      rw [if_neg n1, if_neg (by decide)]
  · rw [hpI_stI_ne (Or.inr e), hpD_stD_ne (Or.inr e), hpD_stI, if_neg e]
theorem RN_wrV {h : Hp} {a i N : Nat} {X : UInt64} (r : RN h a N) : RN (wrV h a i X) a N := by
  intro j hj
  unfold wrV
  rw [hpI_stD]
  by_cases e : j = i
  · subst e
    rw [hpI_stI_self, hpD_stD_self]
    refine ⟨nm_nz _, ?_⟩
    split
    · exact Or.inl rfl
    · exact Or.inr rfl
  · rw [hpI_stI_ne (Or.inr e), hpD_stD_ne (Or.inr e), hpD_stI]; exact r j hj
theorem RW_wrV {h : Hp} {a i b N : Nat} {X : UInt64} (r : RW h b N) : RW (wrV h a i X) b N := r
theorem wrV_I {h : Hp} {a i b : Nat} {X : UInt64} (hb : b ≠ a + 2) : hpI (wrV h a i X) b = hpI h b := by unfold wrV; rw [hpI_stD, hpI_stI_row hb]
theorem wrV_D {h : Hp} {a i b : Nat} {X : UInt64} (hb : b ≠ a + 1) : hpD (wrV h a i X) b = hpD h b := by unfold wrV; rw [hpD_stD_row hb, hpD_stI]
