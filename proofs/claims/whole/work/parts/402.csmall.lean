/-! ===== rows copied, rows tested, signs ===== -/
theorem rw_len {h : Hp} {a N : Nat} (H : RW h a N) : alen h (some (a + 1)) 10 = some (nI N) := alen_ok H.2.2.2.1
def cpV (h : Hp) (d s N : Nat) : Hp := rwI (rwD h (d + 1) (rowU N (hpD h (s + 1)) (hpD h (d + 1)))) (d + 2) (rowU N (hpI h (s + 2)) (hpI h (d + 2)))
theorem rwI_stD (h : Hp) (a b j : Nat) (f : Nat → Int32) (v : UInt64) : stD (rwI h a f) b j v = rwI (stD h b j v) a f := rfl
theorem c_copy {h : Hp} {d s N : Nat} (D : RW h d N) (S : RW h s N) (hN : N < 900) (r : RN h s N) (h1 : s + 1 ≠ d + 1) (h2 : s + 2 ≠ d + 2) : f_X3_copy d (some s) h = some ((), cpV h d s N) := by
  unfold f_X3_copy
  have := loop_from (fun fuel i hh => f_X3_copy_2 fuel (some d) (some s) i hh) (fun i => cpV h d s i) (n := N) (a := 0) (res := some ((), cpV h d s N)) (by omega) (by omega) ?_ ?_
  · have e0 : cpV h d s 0 = h := by unfold cpV; rw [rowU_0, rowU_0, rwD_self]; exact rwI_self h (d + 2)
    rw [e0] at this
    exact this
  · intro fuel i _ hi
    have D' : RW (cpV h d s i) d N := D
    have S' : RW (cpV h d s i) s N := S
    have v1 : hpD (cpV h d s i) (s + 1) i = hpD h (s + 1) i := by unfold cpV; rw [hpD_rwI, hpD_rwD_ne h1]
    have D2 : RW (stD (cpV h d s i) (d + 1) i (hpD h (s + 1) i)) d N := D
    have S2 : RW (stD (cpV h d s i) (d + 1) i (hpD h (s + 1) i)) s N := S
    have v2 : hpI (stD (cpV h d s i) (d + 1) i (hpD h (s + 1) i)) (s + 2) i = hpI h (s + 2) i := by rw [hpI_stD]; unfold cpV; rw [hpI_rwI_ne h2, hpI_rwD]
    rw [f_X3_copy_2, rw_g0 D', Option.bind_some, rw_len D', Option.bind_some, if_neg (show ¬ nI N ≤ nI i by rw [ni_le (by omega) (by omega)]; omega), Option.bind_some, rw_g0 S', Option.bind_some, rw_a0 S' hi (by omega), Option.bind_some, v1, rw_s0 D' hi (by omega), Option.bind_some, rw_g1 D2, Option.bind_some, rw_g1 S2, Option.bind_some, rw_a1 S2 hi (by omega), Option.bind_some, v2, rw_s1 D2 hi (by omega) (r i hi).2, Option.bind_some, li1, ni_add]
    congr 1
    unfold cpV
    rw [rwI_stD, rwD_stD, rowU_s, rwI_stI, rowU_s]
  · intro fuel
    have D' : RW (cpV h d s N) d N := D
    rw [f_X3_copy_2, rw_g0 D', Option.bind_some, rw_len D', Option.bind_some, if_pos (show nI N ≤ nI N from (ni_le (by omega) (by omega)).mpr (Nat.le_refl _))]
theorem cpV_I {h : Hp} {d s N b : Nat} (hb : b ≠ d + 2) : hpI (cpV h d s N) b = hpI h b := by unfold cpV; rw [hpI_rwI_ne hb, hpI_rwD]
theorem cpV_D {h : Hp} {d s N b : Nat} (hb : b ≠ d + 1) : hpD (cpV h d s N) b = hpD h b := by unfold cpV; rw [hpD_rwI, hpD_rwD_ne hb]
theorem RV_cpV {h : Hp} {d s N i : Nat} (hi : i < N) : RV (cpV h d s N) d i = RV h s i := by
  unfold RV cpV
  rw [hpI_rwI_self, hpD_rwI, hpD_rwD_self, rowU_lt hi, rowU_lt hi]
theorem RN_cpV {h : Hp} {d s N : Nat} (r : RN h s N) : RN (cpV h d s N) d N := by
  intro i hi
  unfold cpV
  rw [hpI_rwI_self, hpD_rwI, hpD_rwD_self, rowU_lt hi, rowU_lt hi]
  exact r i hi
def cp1 (h : Hp) (d s i : Nat) : Hp := stI (stD h (d + 1) i (hpD h (s + 1) i)) (d + 2) i (hpI h (s + 2) i)
theorem c_copyOne {h : Hp} {d s N i : Nat} (D : RW h d N) (S : RW h s N) (hi : i < N) (hN : N < 900) (r : RN h s N) : f_X3_copyOne d (nI i) (some s) h = some ((), cp1 h d s i) := by
  have D2 : RW (stD h (d + 1) i (hpD h (s + 1) i)) d N := D
  have S2 : RW (stD h (d + 1) i (hpD h (s + 1) i)) s N := S
  unfold f_X3_copyOne cp1
  rw [rw_g0 D, Option.bind_some, rw_g0 S, Option.bind_some, rw_a0 S hi (by omega), Option.bind_some, rw_s0 D hi (by omega), Option.bind_some, rw_g1 D2, Option.bind_some, rw_g1 S2, Option.bind_some, rw_a1 S2 hi (by omega), Option.bind_some, hpI_stD, rw_s1 D2 hi (by omega) (r i hi).2, Option.bind_some]
theorem RV_cp1 {h : Hp} {d s i : Nat} (j : Nat) : RV (cp1 h d s i) d j = if j = i then RV h s i else RV h d j := by
  unfold RV cp1
  rw [hpD_stI]
  by_cases e : j = i
  · subst e; rw [hpI_stI_self, hpD_stD_self, if_pos rfl]
  · rw [hpI_stI_ne (Or.inr e), hpI_stD, hpD_stD_ne (Or.inr e), if_neg e]
theorem RN_cp1 {h : Hp} {d s i N : Nat} (r : RN h d N) (r2 : RN h s N) (hi : i < N) : RN (cp1 h d s i) d N := by
  intro j hj
  unfold cp1
  rw [hpD_stI]
  by_cases e : j = i
  · subst e; rw [hpI_stI_self, hpD_stD_self]; exact r2 j hj
  · rw [hpI_stI_ne (Or.inr e), hpI_stD, hpD_stD_ne (Or.inr e)]; exact r j hj
theorem cp1_I {h : Hp} {d s i b : Nat} (hb : b ≠ d + 2) : hpI (cp1 h d s i) b = hpI h b := by unfold cp1; rw [hpI_stI_row hb, hpI_stD]
theorem cp1_D {h : Hp} {d s i b : Nat} (hb : b ≠ d + 1) : hpD (cp1 h d s i) b = hpD h b := by unfold cp1; rw [hpD_stI, hpD_stD_row hb]
theorem fn_test {x : UInt64} (hx : Nm x) : Fn x ↔ ¬ 0 < cl x 9218868437227405311 ∧ 0 ≤ cg x 18442240474082181119 := by
  have h : (ky x).natAbs ≤ 9218868437227405312 := hx
  rw [(gt_most hx).2, cg_ge, ky_mostn]
  unfold Fn
  constructor
  · intro q; exact ⟨by omega, Or.inr (by omega)⟩
  · rintro ⟨q1, q2 | q2⟩
    · exact absurd ⟨hx, nm_mostn⟩ q2
    · omega
theorem c_isFinite {h : Hp} {a N n : Nat} (R : RW h a N) (r : RN h a N) (hn : n ≤ N) (hN : N < 900) : ∃ w, f_X3_isFinite a (nI n) h = some (w, h) ∧ (w = 0 ∨ w = 1) ∧ (w = 1 ↔ ∀ i, i < n → Fn (RV h a i)) := by
  have key : ∀ (d i fuel : Nat), i + d = n → d < fuel → ∃ w, f_X3_isFinite_2 fuel (some a) (nI n) (nI i) h = some (w, h) ∧ (w = 0 ∨ w = 1) ∧ (w = 1 ↔ ∀ j, i ≤ j → j < n → Fn (RV h a j)) := by
    intro d
    induction d with
    | zero =>
      intro i fuel hi hf
      obtain ⟨fuel, rfl⟩ : ∃ j, fuel = j + 1 := ⟨fuel - 1, by omega⟩
      refine ⟨1, ?_, Or.inr rfl, fun _ j h1 h2 => by omega, fun _ => rfl⟩
      rw [f_X3_isFinite_2, if_pos ((ni_le (by omega) (by omega)).mpr (by omega)), if_pos (by decide)]
    | succ d ih =>
      intro i fuel hi hf
      obtain ⟨fuel, rfl⟩ : ∃ j, fuel = j + 1 := ⟨fuel - 1, by omega⟩
      rw [f_X3_isFinite_2, if_neg (by rw [ni_le (by omega) (by omega)]; omega), rw_g1 R, Option.bind_some, rw_a1 R (show i < N by omega) (by omega), Option.bind_some]
      have no : ¬ Fn (RV h a i) → ∃ w, f_X3_isFinite_42 h = some (w, h) ∧ (w = 0 ∨ w = 1) ∧ (w = 1 ↔ ∀ j, i ≤ j → j < n → Fn (RV h a j)) := fun q => by
        refine ⟨0, ?_, Or.inl rfl, fun w => absurd w (by decide), fun w => absurd (w i (Nat.le_refl _) (by omega)) q⟩
        unfold f_X3_isFinite_42
        rw [if_pos (by decide)]
      obtain ⟨rx, rf⟩ := r i (by omega)
      by_cases q : hpI h (a + 2) i = 0
      · have ev : RV h a i = hpD h (a + 1) i := by unfold RV; rw [if_pos q]
        rw [if_neg (fun z => z q), rw_g0 R, Option.bind_some, rw_a0 R (show i < N by omega) (by omega), Option.bind_some]
        by_cases p1 : 0 < cl (hpD h (a + 1) i) 9218868437227405311
        · rw [if_pos p1]; exact no (by rw [ev, fn_test rx]; exact fun z => z.1 p1)
        · rw [if_neg p1, Option.bind_some, rw_a0 R (show i < N by omega) (by omega), Option.bind_some]
          by_cases p2 : 0 ≤ cg (hpD h (a + 1) i) 18442240474082181119
          · rw [if_pos p2, li1, ni_add]
            obtain ⟨w, e, w1, w2⟩ := ih (i + 1) fuel (by omega) (by omega)
            refine ⟨w, e, w1, w2.trans ⟨fun z j h1 h2 => ?_, fun z j h1 h2 => z j (by omega) h2⟩⟩
            by_cases e2 : j = i
            · subst e2; rw [ev, fn_test rx]; exact ⟨p1, p2⟩
            · exact z j (by omega) h2
          · rw [if_neg p2]; exact no (by rw [ev, fn_test rx]; exact fun z => p2 z.2)
      · have ev : RV h a i = nanV := by unfold RV; rw [if_neg q]
        rw [if_pos q]
        exact no (by rw [ev]; exact fun z => nm_nanV z.nm)
  obtain ⟨w, e, w1, w2⟩ := key n 0 fuelN (by omega) (by unfold fuelN; omega)
  exact ⟨w, e, w1, w2.trans ⟨fun z j h2 => z j (by omega) h2, fun z j _ h2 => z j h2⟩⟩
/-- the sign of a value: 2 where there is no number -/
def sgo (v : UInt64) : Int32 := if (ky v).natAbs ≤ 9218868437227405312 then (if ky v < 0 then -1 else if 0 < ky v then 1 else 0) else 2
theorem sgo_nm {h : Hp} {a N i : Nat} (r : RN h a N) (hi : i < N) : (if hpI h (a + 2) i = 0 then (if 0 ≤ cg (hpD h (a + 1) i) FP.dconst0 then (if cl (hpD h (a + 1) i) FP.dconst0 ≤ 0 then (0 : Int32) else 1) else -1) else 2) = sgo (RV h a i) := by
  obtain ⟨rx, rf⟩ := r i hi
  have rx' : (ky (hpD h (a + 1) i)).natAbs ≤ 9218868437227405312 := rx
  unfold RV sgo
  by_cases q : hpI h (a + 2) i = 0
  · rw [if_pos q, if_pos q, if_pos rx']
    have g1 : 0 ≤ cg (hpD h (a + 1) i) FP.dconst0 ↔ 0 ≤ ky (hpD h (a + 1) i) := by
      rw [cg_ge, ky_0]
      exact ⟨fun z => z.elim (fun w => absurd ⟨rx, nm_0⟩ w) id, Or.inr⟩
    have g2 : cl (hpD h (a + 1) i) FP.dconst0 ≤ 0 ↔ ky (hpD h (a + 1) i) ≤ 0 := by
      rw [cl_le, ky_0]
      exact ⟨fun z => z.elim (fun w => absurd ⟨rx, nm_0⟩ w) id, Or.inr⟩
    by_cases p : ky (hpD h (a + 1) i) < 0
    · rw [if_neg (fun z => by have := g1.mp z; omega), if_pos p]
    · rw [if_pos (g1.mpr (by omega)), if_neg p]
      by_cases p2 : 0 < ky (hpD h (a + 1) i)
      · rw [if_neg (fun z => by have := g2.mp z; omega), if_pos p2]
      · rw [if_pos (g2.mpr (by omega)), if_neg p2]
  · rw [if_neg q, if_neg q, if_neg (show ¬ (ky nanV).natAbs ≤ 9218868437227405312 from nm_nanV)]
