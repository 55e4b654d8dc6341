/-! ===== signals ===== -/
def sgP (tm : Nat → UInt64) (a : UInt64) : Nat → Nat → Nat
  | 0, p => p
  | d + 1, p => if ky (tm (p + 1)) ≤ ky a then sgP tm a d (p + 1) else p
def sgL (how : Int32) (tm vl : Nat → UInt64) (a : UInt64) (p : Nat) : UInt64 :=
  if how = 0 then vl p else if ky (tm p) = ky a then vl p else
    cn (FP.dadd (vl p) (cn (FP.dmul (cn (FP.dsub (vl (p + 1)) (vl p))) (cn (FP.ddiv (cn (FP.dsub a (tm p))) (cn (FP.dsub (tm (p + 1)) (tm p))))))))
/-- a signal's value -/
def sgV (n : Nat) (how : Int32) (tm vl : Nat → UInt64) (a : UInt64) : UInt64 :=
  if n = 0 then FP.dconst0 else if (ky a).natAbs ≤ 9218868437227405312 then
    (if ky a ≤ ky (tm 0) then vl 0 else if ky (tm (n - 1)) ≤ ky a then vl (n - 1) else sgL how tm vl a (sgP tm a (n - 1) 0)) else a
theorem r_sig_loop {h : Hp} {m s n : Nat} {a : UInt64} (H : RO h m) (hs : s < 8) (hn : n ≤ 16) (ha : Nm a) (ht : ∀ j, j < n → Nm (hpD h (m + 12) (16 * s + j))) (hl : ky a < ky (hpD h (m + 12) (16 * s + (n - 1)))) :
    ∀ (d p fuel : Nat), p + 1 + d = n - 1 → d < fuel → f_X9_signalAt_83 fuel (some m) (nI s) a (nI (16 * s + p)) h = some (sgL (hpI h (m + 10) s) (fun j => hpD h (m + 12) (16 * s + j)) (fun j => hpD h (m + 13) (16 * s + j)) a (sgP (fun j => hpD h (m + 12) (16 * s + j)) a (d + 1) p), h) := by
  have stop : ∀ (p fuel : Nat), p + 1 < n → 0 < cg (hpD h (m + 12) (16 * s + p + 1)) a → f_X9_signalAt_83 (fuel + 1) (some m) (nI s) a (nI (16 * s + p)) h = some (sgL (hpI h (m + 10) s) (fun j => hpD h (m + 12) (16 * s + j)) (fun j => hpD h (m + 13) (16 * s + j)) a p, h) := by
    intro p fuel hp hc
    have hp1 := ht p (by omega)
    rw [f_X9_signalAt_83, ro_g12 H, Option.bind_some, li1, ni_add, ro_a12 H (by omega), Option.bind_some, if_pos hc]
    unfold sgL f_X9_signalAt_124
    rw [ro_g10 H, Option.bind_some, ro_a10 H hs, Option.bind_some]
    by_cases hw : hpI h (m + 10) s = 0
    · simp [hw, ro_g13 H, ro_a13 H (show 16 * s + p < 128 by omega)]
    · simp only [if_neg hw, ro_g12 H, Option.bind_some, ro_a12 H (show 16 * s + p < 128 by omega)]
      by_cases he : cl (hpD h (m + 12) (16 * s + p)) a = 0
      · have k := (cl_eq.mp he).2
        rw [if_neg (fun q => q he), if_pos k]
        simp [ro_g13 H, ro_a13 H (show 16 * s + p < 128 by omega)]
      · have k : ¬ ky (hpD h (m + 12) (16 * s + p)) = ky a := fun q => he (cl_eq.mpr ⟨⟨hp1, ha⟩, q⟩)
        rw [if_pos he, if_neg k]
        simp only [ro_g13 H, ro_g12 H, Option.bind_some, ro_a13 H (show 16 * s + p < 128 by omega), ro_a13 H (show 16 * s + p + 1 < 128 by omega), ro_a12 H (show 16 * s + p < 128 by omega), ro_a12 H (show 16 * s + p + 1 < 128 by omega), r_less, r_by, r_times, r_plus, bnd_some]
        rfl
  intro d
  induction d with
  | zero =>
    intro p fuel hp hf
    obtain ⟨fuel, rfl⟩ : ∃ j, fuel = j + 1 := ⟨fuel - 1, by omega⟩
    have e : 16 * s + p + 1 = 16 * s + (n - 1) := by omega
    have hc : 0 < cg (hpD h (m + 12) (16 * s + p + 1)) a := by rw [cg_gt, e]; exact Or.inr hl
    rw [stop p fuel (by omega) hc]
    have : ¬ ky (hpD h (m + 12) (16 * s + (p + 1))) ≤ ky a := by rw [show 16 * s + (p + 1) = 16 * s + (n - 1) by omega]; omega
    simp [sgP, this]
  | succ d ih =>
    intro p fuel hp hf
    obtain ⟨fuel, rfl⟩ : ∃ j, fuel = j + 1 := ⟨fuel - 1, by omega⟩
    by_cases hc : 0 < cg (hpD h (m + 12) (16 * s + p + 1)) a
    · rw [stop p fuel (by omega) hc]
      have h1 := ht (p + 1) (by omega)
      have : ¬ ky (hpD h (m + 12) (16 * s + (p + 1))) ≤ ky a := by
        rw [cg_gt] at hc
        rcases hc with q | q
        · exact absurd ⟨h1, ha⟩ q
        · exact Int.not_le.mpr q
      simp [sgP, this]
    · have : ky (hpD h (m + 12) (16 * s + (p + 1))) ≤ ky a := by
        rw [cg_gt] at hc
        exact Int.not_lt.mp (fun q => hc (Or.inr q))
      rw [f_X9_signalAt_83, ro_g12 H, Option.bind_some, li1, ni_add, ro_a12 H (by omega), Option.bind_some, if_neg hc]
      rw [show 16 * s + p + 1 = 16 * s + (p + 1) by omega, ih (p + 1) fuel (by omega) (by omega)]
      rw [show sgP (fun j => hpD h (m + 12) (16 * s + j)) a (d + 1 + 1) p = sgP (fun j => hpD h (m + 12) (16 * s + j)) a (d + 1) (p + 1) by rw [sgP, if_pos this]]
theorem r_signalAt {h : Hp} {m s n : Nat} {a : UInt64} (H : RO h m) (hs : s < 8) (hn : n ≤ 16) (hp : hpI h (m + 11) s = nI n) (ht : ∀ j, j < n → Nm (hpD h (m + 12) (16 * s + j))) :
    f_X9_signalAt m (nI s) a h = some (sgV n (hpI h (m + 10) s) (fun j => hpD h (m + 12) (16 * s + j)) (fun j => hpD h (m + 13) (16 * s + j)) a, h) := by
  unfold f_X9_signalAt sgV
  rw [ro_g11 H, Option.bind_some, ro_a11 H hs, Option.bind_some, hp]
  by_cases h0 : n = 0
  · subst h0
    simp [li0]
  · have hn0 : ¬ nI n = 0 := by rw [li0, ni_eq (by omega) (by omega)]; exact h0
    rw [if_pos hn0, if_neg h0]
    by_cases ha : Nm a
    · have ha' : (ky a).natAbs ≤ 9218868437227405312 := ha
      have e : cl a a = 0 := cl_eq.mpr ⟨⟨ha, ha⟩, rfl⟩
      rw [if_pos e, if_pos ha']
      rw [li16, ni_mul, li1]
      simp only [ro_g12 H, ro_g13 H, Option.bind_some]
      rw [ro_a12 H (by omega), Option.bind_some]
      have t0 := ht 0 (by omega)
      by_cases h1 : 0 < cg a (hpD h (m + 12) (16 * s))
      · have k1 : ¬ ky a ≤ ky (hpD h (m + 12) (16 * s + 0)) := by
          rw [cg_gt] at h1
          rcases h1 with q | q
          · exact absurd ⟨ha, t0⟩ q
          · exact Int.not_le.mpr q
        rw [if_pos h1, if_neg k1, ni_add, ni_sub (by omega), ro_a12 H (by omega), Option.bind_some]
        have tn := ht (n - 1) (by omega)
        have e1 : 16 * s + n - 1 = 16 * s + (n - 1) := by omega
        rw [e1]
        by_cases h2 : cl a (hpD h (m + 12) (16 * s + (n - 1))) < 0
        · have k2 : ky a < ky (hpD h (m + 12) (16 * s + (n - 1))) := by
            rw [cl_lt] at h2
            rcases h2 with q | q
            · exact absurd ⟨ha, tn⟩ q
            · exact q
          rw [if_pos h2, if_neg (by omega)]
          have n2 : 2 ≤ n := by
            rcases Nat.lt_or_ge n 2 with q | q
            · exfalso
              have : n - 1 = 0 := by omega
              rw [this] at k2
              omega
            · exact q
          have L := r_sig_loop H hs hn ha ht k2 (n - 2) 0 fuelN (by omega) (by unfold fuelN; omega)
          rw [Nat.add_zero] at L
          rw [L, show n - 2 + 1 = n - 1 by omega]
        · have k2 : ky (hpD h (m + 12) (16 * s + (n - 1))) ≤ ky a := by
            rw [cl_lt] at h2
            exact Int.not_lt.mp (fun q => h2 (Or.inr q))
          rw [if_neg h2, if_pos k2, ro_a13 H (by omega)]
          rfl
      · have k1 : ky a ≤ ky (hpD h (m + 12) (16 * s + 0)) := by
          rw [cg_gt] at h1
          exact Int.not_lt.mp (fun q => h1 (Or.inr q))
        rw [if_neg h1, if_pos k1, ro_a13 H (by omega)]
        rfl
    · have ha' : ¬ (ky a).natAbs ≤ 9218868437227405312 := ha
      have e : ¬ cl a a = 0 := fun q => ha (cl_eq.mp q).1.1
      rw [if_neg e, if_neg ha']
