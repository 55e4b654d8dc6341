theorem r_put {h : Hp} {m l : Nat} (H : RO h m) (hl : l < 8) (i : Int32) (v : UInt64) : f_X9_put m (nI l) i v h = some (pV (narB (hpI h (m + 2) l) i) v, h) := by
  unfold f_X9_put f_X9_put_27 f_X9_put_28 pV narB
  rw [ro_g1 H, Option.bind_some, ro_a1 H hl, Option.bind_some]
  by_cases hb : ((hpI h (m + 2) l) >>> (i &&& 31)) &&& 1 = 1
  · by_cases hv : Nm v
    · have hv' : (ky v).natAbs ≤ 9218868437227405312 := hv
      simp [hb, r_isNum1 hv, bnd_some, fop32_ok (nm_d2f hv), fop_ok (nm_f2d (nm_d2f hv)), hv']
    · have hv' : ¬ (ky v).natAbs ≤ 9218868437227405312 := hv
      simp [hb, r_isNum0 hv, bnd_some, hv']
  · simp [hb]
def pwV (a : UInt64) : Nat → UInt64
  | 0 => FP.dconst1
  | k + 1 => cn (FP.dmul (pwV a k) a)
theorem r_power_loop (a : UInt64) (M : Nat) (hM : M < 100) (h : Hp) : ∀ (d k n : Nat), k + d = M → d < n → f_X9_power_5 n a (nI M) (pwV a k) (nI k) h = some (pwV a M, h) := by
  intro d
  induction d with
  | zero =>
    intro k n hk hn
    obtain ⟨n, rfl⟩ : ∃ j, n = j + 1 := ⟨n - 1, by omega⟩
    have : k = M := by omega
    subst this
    rw [f_X9_power_5, if_pos ((ni_le (by omega) (by omega)).mpr (Nat.le_refl _))]
  | succ d ih =>
    intro k n hk hn
    obtain ⟨n, rfl⟩ : ∃ j, n = j + 1 := ⟨n - 1, by omega⟩
    rw [f_X9_power_5, if_neg (by rw [ni_le (by omega) (by omega)]; omega), r_times, bnd_some, li1, ni_add]
    exact ih (k + 1) n (by omega) (by omega)
theorem r_power (a : UInt64) (M : Nat) (hM : M < 100) (h : Hp) : f_X9_power a (nI M) h = some (pwV a M, h) := by
  unfold f_X9_power
  rw [li0]
  exact r_power_loop a M hM h M 0 fuelN (by omega) (by unfold fuelN; omega)
