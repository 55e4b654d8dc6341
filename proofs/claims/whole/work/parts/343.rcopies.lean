/-! ===== the reference copies a slot (written by program) ===== -/
theorem r_cv_62 {h0 : Hp} {m a b : Nat} (H : RO h0 m) (ha : a < 54) (hb : b < 54) (hab : a ≠ b) :
    ∃ h', f_X9_copiesVariable_62 fuelN (some m) (nI a) (nI b) 0 h0 = some ((), h') ∧ hpS h' = hpS h0 ∧ hpK h' = hpK h0 ∧ hpR h' = hpR h0 ∧ hpI h' = hpI h0 ∧ (∀ q, q ≠ m + 43 → hpD h' q = hpD h0 q) ∧ (∀ j, j < 5 → hpD h' (m + 43) (5 * b + j) = hpD h0 (m + 43) (5 * a + j)) ∧ (∀ k, (k < 5 * b ∨ 5 * b + 5 ≤ k) → hpD h' (m + 43) k = hpD h0 (m + 43) k) := by
  refine loop_rel (fun fuel i hh => f_X9_copiesVariable_62 fuel (some m) (nI a) (nI b) i hh) (fun i h => hpS h = hpS h0 ∧ hpK h = hpK h0 ∧ hpR h = hpR h0 ∧ hpI h = hpI h0 ∧ (∀ q, q ≠ m + 43 → hpD h q = hpD h0 q) ∧ (∀ j, j < i → hpD h (m + 43) (5 * b + j) = hpD h0 (m + 43) (5 * a + j)) ∧ (∀ k, (k < 5 * b ∨ 5 * b + 5 ≤ k) → hpD h (m + 43) k = hpD h0 (m + 43) k)) (n := 5) (res := fun h => some ((), h)) (by omega) ?_ ?_ h0 ⟨rfl, rfl, rfl, rfl, fun _ _ => rfl, fun j hj => by omega, fun _ _ => rfl⟩
  · rintro fuel i h hi ⟨p1, p2, p3, p4, p5, p6, p7⟩
    have H0 : RO h m := ⟨fun k => by rw [p3]; exact H.1 k, fun q hq => by rw [p2]; exact H.2 q hq⟩
    refine ⟨stD h (m + 43) (5 * b + i) (hpD h (m + 43) (5 * a + i)), ?_, p1, p2, p3, p4, fun q hq => by rw [hpD_stD_row hq, p5 q hq], fun j hj => ?_, fun k hk => by rw [hpD_stD_ne (Or.inr (by omega)), p7 k hk]⟩
    · rw [f_X9_copiesVariable_62, if_neg (show ¬ 5 ≤ nI i by rw [li5, ni_le (by omega) (by omega)]; omega), ro_g44 H0, Option.bind_some, Option.bind_some, li5, ni_mul, ni_add, ro_a44 H0 (by omega), Option.bind_some, ni_mul, ni_add, ro_s44 H0 (by omega), Option.bind_some, li1, ni_add]
    · by_cases e : j = i
      · subst e; rw [hpD_stD_self, p7 _ (by omega)]
      · rw [hpD_stD_ne (Or.inr (by omega)), p6 j (by omega)]
  · rintro fuel h -
    rw [f_X9_copiesVariable_62, if_pos (by decide)]
theorem r_copiesVariable {h : Hp} {m a b : Nat} (H : RO h m) (ha : a < 54) (hb : b < 54) (hab : a ≠ b) :
    ∃ h', f_X9_copiesVariable m (nI a) (nI b) h = some ((), h') ∧ hpS h' = hpS h ∧ hpK h' = hpK h ∧ hpR h' = hpR h ∧ hpI h' = hpI h ∧ (∀ q, q ≠ m + 29 → q ≠ m + 39 → q ≠ m + 40 → q ≠ m + 41 → q ≠ m + 42 → q ≠ m + 43 → hpD h' q = hpD h q) ∧ (∀ o, (o = 29 ∨ (39 ≤ o ∧ o ≤ 42)) → ∀ k, hpD h' (m + o) k = if k = b then hpD h (m + o) a else hpD h (m + o) k) ∧ (∀ j, j < 5 → hpD h' (m + 43) (5 * b + j) = hpD h (m + 43) (5 * a + j)) ∧ (∀ k, (k < 5 * b ∨ 5 * b + 5 ≤ k) → hpD h' (m + 43) k = hpD h (m + 43) k) := by
  unfold f_X9_copiesVariable
  generalize e1 : stD h (m + 29) b (hpD h (m + 29) a) = h1
  have R1 : RO h1 m := by rw [← e1]; exact H
  have d1 : ∀ q, q ≠ m + 29 → hpD h1 q = hpD h q := fun q hq => by rw [← e1]; exact hpD_stD_row hq
  have i1 : hpI h1 = hpI h ∧ hpS h1 = hpS h ∧ hpK h1 = hpK h ∧ hpR h1 = hpR h := by rw [← e1]; exact ⟨rfl, rfl, rfl, rfl⟩
  rw [ro_g30 H, Option.bind_some, Option.bind_some, ro_a30 H ha, Option.bind_some, ro_s30 H hb, Option.bind_some, e1]
  generalize e2 : stD h1 (m + 39) b (hpD h1 (m + 39) a) = h2
  have R2 : RO h2 m := by rw [← e2]; exact R1
  have d2 : ∀ q, q ≠ m + 39 → hpD h2 q = hpD h1 q := fun q hq => by rw [← e2]; exact hpD_stD_row hq
  have i2 : hpI h2 = hpI h1 ∧ hpS h2 = hpS h1 ∧ hpK h2 = hpK h1 ∧ hpR h2 = hpR h1 := by rw [← e2]; exact ⟨rfl, rfl, rfl, rfl⟩
  rw [ro_g40 R1, Option.bind_some, Option.bind_some, ro_a40 R1 ha, Option.bind_some, ro_s40 R1 hb, Option.bind_some, e2]
  generalize e3 : stD h2 (m + 40) b (hpD h2 (m + 40) a) = h3
  have R3 : RO h3 m := by rw [← e3]; exact R2
  have d3 : ∀ q, q ≠ m + 40 → hpD h3 q = hpD h2 q := fun q hq => by rw [← e3]; exact hpD_stD_row hq
  have i3 : hpI h3 = hpI h2 ∧ hpS h3 = hpS h2 ∧ hpK h3 = hpK h2 ∧ hpR h3 = hpR h2 := by rw [← e3]; exact ⟨rfl, rfl, rfl, rfl⟩
  rw [ro_g41 R2, Option.bind_some, Option.bind_some, ro_a41 R2 ha, Option.bind_some, ro_s41 R2 hb, Option.bind_some, e3]
  generalize e4 : stD h3 (m + 41) b (hpD h3 (m + 41) a) = h4
  have R4 : RO h4 m := by rw [← e4]; exact R3
  have d4 : ∀ q, q ≠ m + 41 → hpD h4 q = hpD h3 q := fun q hq => by rw [← e4]; exact hpD_stD_row hq
  have i4 : hpI h4 = hpI h3 ∧ hpS h4 = hpS h3 ∧ hpK h4 = hpK h3 ∧ hpR h4 = hpR h3 := by rw [← e4]; exact ⟨rfl, rfl, rfl, rfl⟩
  rw [ro_g42 R3, Option.bind_some, Option.bind_some, ro_a42 R3 ha, Option.bind_some, ro_s42 R3 hb, Option.bind_some, e4]
  generalize e5 : stD h4 (m + 42) b (hpD h4 (m + 42) a) = h5
  have R5 : RO h5 m := by rw [← e5]; exact R4
  have d5 : ∀ q, q ≠ m + 42 → hpD h5 q = hpD h4 q := fun q hq => by rw [← e5]; exact hpD_stD_row hq
  have i5 : hpI h5 = hpI h4 ∧ hpS h5 = hpS h4 ∧ hpK h5 = hpK h4 ∧ hpR h5 = hpR h4 := by rw [← e5]; exact ⟨rfl, rfl, rfl, rfl⟩
  rw [ro_g43 R4, Option.bind_some, Option.bind_some, ro_a43 R4 ha, Option.bind_some, ro_s43 R4 hb, Option.bind_some, e5]
  obtain ⟨h6, e6, s1, s2, s3, s4, s5, s6, s7⟩ := r_cv_62 R5 ha hb hab
  have val : ∀ (x y : Hp) (o : Nat), y = stD x (m + o) b (hpD x (m + o) a) → ∀ k, hpD y (m + o) k = if k = b then hpD x (m + o) a else hpD x (m + o) k := by
    intro x y o e k
    rw [e, hpD_stD, if_pos rfl]
  refine ⟨h6, e6, ?_, ?_, ?_, ?_, fun q a1 a2 a3 a4 a5 a6 => ?_, fun o ho k => ?_, fun j hj => ?_, fun k hk => ?_⟩
  · rw [s1, i5.2.1, i4.2.1, i3.2.1, i2.2.1, i1.2.1]
  · rw [s2, i5.2.2.1, i4.2.2.1, i3.2.2.1, i2.2.2.1, i1.2.2.1]
  · rw [s3, i5.2.2.2, i4.2.2.2, i3.2.2.2, i2.2.2.2, i1.2.2.2]
  · rw [s4, i5.1, i4.1, i3.1, i2.1, i1.1]
  · rw [s5 q a6, d5 q a5, d4 q a4, d3 q a3, d2 q a2, d1 q a1]
  · rcases (by omega : o = 29 ∨ o = 39 ∨ o = 40 ∨ o = 41 ∨ o = 42) with rfl | rfl | rfl | rfl | rfl
    · rw [s5 _ (by omega), d5 _ (by omega), d4 _ (by omega), d3 _ (by omega), d2 _ (by omega)]; exact val h h1 29 e1.symm k
    · rw [s5 _ (by omega), d5 _ (by omega), d4 _ (by omega), d3 _ (by omega), val h1 h2 39 e2.symm k, d1 _ (by omega)]
    · rw [s5 _ (by omega), d5 _ (by omega), d4 _ (by omega), val h2 h3 40 e3.symm k, d2 _ (by omega), d1 _ (by omega)]
    · rw [s5 _ (by omega), d5 _ (by omega), val h3 h4 41 e4.symm k, d3 _ (by omega), d2 _ (by omega), d1 _ (by omega)]
    · rw [s5 _ (by omega), val h4 h5 42 e5.symm k, d4 _ (by omega), d3 _ (by omega), d2 _ (by omega), d1 _ (by omega)]
  · rw [s6 j hj, d5 _ (by omega), d4 _ (by omega), d3 _ (by omega), d2 _ (by omega), d1 _ (by omega)]
  · rw [s7 k hk, d5 _ (by omega), d4 _ (by omega), d3 _ (by omega), d2 _ (by omega), d1 _ (by omega)]
/-- what the loops of copies leave alone -/
def Sm (h0 h : Hp) : Prop := hpS h = hpS h0 ∧ hpK h = hpK h0 ∧ hpR h = hpR h0
theorem r_copies_206 {h0 : Hp} {m a b : Nat} (H : RO h0 m) (ha : a < 9) (hb : b < 9) (hab : a ≠ b) :
    ∃ h', f_X9_copies_206 fuelN (some m) (nI a) (nI b) 0 h0 = f_X9_copies_236 fuelN (some m) (nI a) (nI b) 0 h' ∧ Sm h0 h' ∧ hpI h' = hpI h0 ∧ (∀ q, q ≠ m + 29 → q ≠ m + 39 → q ≠ m + 40 → q ≠ m + 41 → q ≠ m + 42 → q ≠ m + 43 → hpD h' q = hpD h0 q) ∧ (∀ o, (o = 29 ∨ (39 ≤ o ∧ o ≤ 42)) → (∀ i', i' < 6 → hpD h' (m + o) (6 * b + i') = hpD h0 (m + o) (6 * a + i')) ∧ (∀ k, (k < 6 * b ∨ 6 * b + 6 ≤ k) → hpD h' (m + o) k = hpD h0 (m + o) k)) ∧ (∀ i', i' < 6 → ∀ j, j < 5 → hpD h' (m + 43) (5 * (6 * b + i') + j) = hpD h0 (m + 43) (5 * (6 * a + i') + j)) ∧ (∀ k, (k < 30 * b ∨ 30 * b + 30 ≤ k) → hpD h' (m + 43) k = hpD h0 (m + 43) k) := by
  refine loop_rel (fun fuel i hh => f_X9_copies_206 fuel (some m) (nI a) (nI b) i hh) (fun i h => Sm h0 h ∧ hpI h = hpI h0 ∧ (∀ q, q ≠ m + 29 → q ≠ m + 39 → q ≠ m + 40 → q ≠ m + 41 → q ≠ m + 42 → q ≠ m + 43 → hpD h q = hpD h0 q) ∧ (∀ o, (o = 29 ∨ (39 ≤ o ∧ o ≤ 42)) → (∀ i', i' < i → hpD h (m + o) (6 * b + i') = hpD h0 (m + o) (6 * a + i')) ∧ (∀ k, (k < 6 * b ∨ 6 * b + 6 ≤ k) → hpD h (m + o) k = hpD h0 (m + o) k)) ∧ (∀ i', i' < i → ∀ j, j < 5 → hpD h (m + 43) (5 * (6 * b + i') + j) = hpD h0 (m + 43) (5 * (6 * a + i') + j)) ∧ (∀ k, (k < 30 * b ∨ 30 * b + 30 ≤ k) → hpD h (m + 43) k = hpD h0 (m + 43) k)) (n := 6) (res := fun h => f_X9_copies_236 fuelN (some m) (nI a) (nI b) 0 h) (by omega) ?_ ?_ h0 ⟨⟨rfl, rfl, rfl⟩, rfl, fun _ _ _ _ _ _ _ => rfl, fun o _ => ⟨fun i' hi => by omega, fun _ _ => rfl⟩, fun i' hi => by omega, fun _ _ => rfl⟩
  · rintro fuel i h hi ⟨p1, p2, p3, p4, p5, p6⟩
    have H0 : RO h m := ⟨fun k => by rw [p1.2.2]; exact H.1 k, fun q hq => by rw [p1.2.1]; exact H.2 q hq⟩
    obtain ⟨h1, e1, s1, s2, s3, s4, s5, s6, s7, s8⟩ := r_copiesVariable (a := 6 * a + i) (b := 6 * b + i) H0 (by omega) (by omega) (by omega)
    refine ⟨h1, ?_, ⟨by rw [s1, p1.1], by rw [s2, p1.2.1], by rw [s3, p1.2.2]⟩, by rw [s4, p2], fun q a1 a2 a3 a4 a5 a6 => by rw [s5 q a1 a2 a3 a4 a5 a6, p3 q a1 a2 a3 a4 a5 a6], fun o ho => ⟨fun i' hi' => ?_, fun k hk => ?_⟩, fun i' hi' j hj => ?_, fun k hk => ?_⟩
    · rw [f_X9_copies_206, if_neg (show ¬ 6 ≤ nI i by rw [li6, ni_le (by omega) (by omega)]; omega), ro_ck H0, Option.bind_some, li6, ni_mul, ni_add, ni_mul, ni_add, e1, bnd_some, li1, ni_add]
    · rw [s6 o ho]
      by_cases e : i' = i
      · subst e; rw [if_pos rfl, (p4 o ho).2 _ (by omega)]
      · rw [if_neg (by omega), (p4 o ho).1 i' (by omega)]
    · rw [s6 o ho, if_neg (by omega), (p4 o ho).2 k hk]
    · by_cases e : i' = i
      · subst e; rw [s7 j hj, p6 _ (by omega)]
      · rw [s8 _ (by omega), p5 i' (by omega) j hj]
    · rw [s8 _ (by omega), p6 k hk]
  · rintro fuel h -
    rw [f_X9_copies_206, if_pos (by decide)]
theorem r_copies_236 {h0 : Hp} {m a b : Nat} (H : RO h0 m) (ha : a < 9) (hb : b < 9) (hab : a ≠ b) :
    ∃ h', f_X9_copies_236 fuelN (some m) (nI a) (nI b) 0 h0 = f_X9_copies_329 fuelN (some m) (nI a) (nI b) 0 h' ∧ Sm h0 h' ∧ hpD h' = hpD h0 ∧ (∀ q, q ≠ m + 30 → q ≠ m + 31 → q ≠ m + 32 → q ≠ m + 33 → hpI h' q = hpI h0 q) ∧ (∀ o, (30 ≤ o ∧ o ≤ 33) → (∀ i', i' < 4 → hpI h' (m + o) (4 * b + i') = hpI h0 (m + o) (4 * a + i')) ∧ (∀ k, (k < 4 * b ∨ 4 * b + 4 ≤ k) → hpI h' (m + o) k = hpI h0 (m + o) k)) := by
  refine loop_rel (fun fuel i hh => f_X9_copies_236 fuel (some m) (nI a) (nI b) i hh) (fun i h => Sm h0 h ∧ hpD h = hpD h0 ∧ (∀ q, q ≠ m + 30 → q ≠ m + 31 → q ≠ m + 32 → q ≠ m + 33 → hpI h q = hpI h0 q) ∧ (∀ o, (30 ≤ o ∧ o ≤ 33) → (∀ i', i' < i → hpI h (m + o) (4 * b + i') = hpI h0 (m + o) (4 * a + i')) ∧ (∀ k, (k < 4 * b ∨ 4 * b + 4 ≤ k) → hpI h (m + o) k = hpI h0 (m + o) k))) (n := 4) (res := fun h => f_X9_copies_329 fuelN (some m) (nI a) (nI b) 0 h) (by omega) ?_ ?_ h0 ⟨⟨rfl, rfl, rfl⟩, rfl, fun _ _ _ _ _ => rfl, fun o _ => ⟨fun i' hi => by omega, fun _ _ => rfl⟩⟩
  · rintro fuel i h hi ⟨p1, p2, p3, p4⟩
    have H0 : RO h m := ⟨fun k => by rw [p1.2.2]; exact H.1 k, fun q hq => by rw [p1.2.1]; exact H.2 q hq⟩
    rw [f_X9_copies_236, if_neg (show ¬ 4 ≤ nI i by rw [li4, ni_le (by omega) (by omega)]; omega)]
    simp only [li4, ni_mul, ni_add]
    generalize e1 : stI h (m + 30) (4 * b + i) (hpI h (m + 30) (4 * a + i)) = h1
    have R1 : RO h1 m := by rw [← e1]; exact H0
    have d1 : ∀ q, q ≠ m + 30 → hpI h1 q = hpI h q := fun q hq => by rw [← e1]; exact hpI_stI_row hq
    have i1 : hpD h1 = hpD h ∧ hpS h1 = hpS h ∧ hpK h1 = hpK h ∧ hpR h1 = hpR h := by rw [← e1]; exact ⟨rfl, rfl, rfl, rfl⟩
    rw [ro_g31 H0, Option.bind_some, Option.bind_some, ro_a31 H0 (by omega), Option.bind_some, ro_s31 H0 (by omega), Option.bind_some, e1]
    generalize e2 : stI h1 (m + 31) (4 * b + i) (hpI h1 (m + 31) (4 * a + i)) = h2
    have R2 : RO h2 m := by rw [← e2]; exact R1
    have d2 : ∀ q, q ≠ m + 31 → hpI h2 q = hpI h1 q := fun q hq => by rw [← e2]; exact hpI_stI_row hq
    have i2 : hpD h2 = hpD h1 ∧ hpS h2 = hpS h1 ∧ hpK h2 = hpK h1 ∧ hpR h2 = hpR h1 := by rw [← e2]; exact ⟨rfl, rfl, rfl, rfl⟩
    rw [ro_g32 R1, Option.bind_some, Option.bind_some, ro_a32 R1 (by omega), Option.bind_some, ro_s32 R1 (by omega), Option.bind_some, e2]
    generalize e3 : stI h2 (m + 32) (4 * b + i) (hpI h2 (m + 32) (4 * a + i)) = h3
    have R3 : RO h3 m := by rw [← e3]; exact R2
    have d3 : ∀ q, q ≠ m + 32 → hpI h3 q = hpI h2 q := fun q hq => by rw [← e3]; exact hpI_stI_row hq
    have i3 : hpD h3 = hpD h2 ∧ hpS h3 = hpS h2 ∧ hpK h3 = hpK h2 ∧ hpR h3 = hpR h2 := by rw [← e3]; exact ⟨rfl, rfl, rfl, rfl⟩
    rw [ro_g33 R2, Option.bind_some, Option.bind_some, ro_a33 R2 (by omega), Option.bind_some, ro_s33 R2 (by omega), Option.bind_some, e3]
    generalize e4 : stI h3 (m + 33) (4 * b + i) (hpI h3 (m + 33) (4 * a + i)) = h4
    have R4 : RO h4 m := by rw [← e4]; exact R3
    have d4 : ∀ q, q ≠ m + 33 → hpI h4 q = hpI h3 q := fun q hq => by rw [← e4]; exact hpI_stI_row hq
    have i4 : hpD h4 = hpD h3 ∧ hpS h4 = hpS h3 ∧ hpK h4 = hpK h3 ∧ hpR h4 = hpR h3 := by rw [← e4]; exact ⟨rfl, rfl, rfl, rfl⟩
    rw [ro_g34 R3, Option.bind_some, Option.bind_some, ro_a34 R3 (by omega), Option.bind_some, ro_s34 R3 (by omega), Option.bind_some, e4]
    have val : ∀ (x y : Hp) (o : Nat), y = stI x (m + o) (4 * b + i) (hpI x (m + o) (4 * a + i)) → ∀ k, hpI y (m + o) k = if k = 4 * b + i then hpI x (m + o) (4 * a + i) else hpI x (m + o) k := by
      intro x y o e k
      rw [e, hpI_stI, if_pos rfl]
    have v : ∀ o, (30 ≤ o ∧ o ≤ 33) → ∀ k, hpI h4 (m + o) k = if k = 4 * b + i then hpI h (m + o) (4 * a + i) else hpI h (m + o) k := by
      intro o ho k
      rcases (by omega : o = 30 ∨ o = 31 ∨ o = 32 ∨ o = 33) with rfl | rfl | rfl | rfl
      · rw [d4 _ (by omega), d3 _ (by omega), d2 _ (by omega)]; exact val h h1 30 e1.symm k
      · rw [d4 _ (by omega), d3 _ (by omega), val h1 h2 31 e2.symm k, d1 _ (by omega)]
      · rw [d4 _ (by omega), val h2 h3 32 e3.symm k, d2 _ (by omega), d1 _ (by omega)]
      · rw [val h3 h4 33 e4.symm k, d3 _ (by omega), d2 _ (by omega), d1 _ (by omega)]
    refine ⟨h4, by rw [li1, ni_add], ⟨?_, ?_, ?_⟩, ?_, fun q a1 a2 a3 a4 => ?_, fun o ho => ⟨fun i' hi' => ?_, fun k hk => ?_⟩⟩
    · rw [i4.2.1, i3.2.1, i2.2.1, i1.2.1, p1.1]
    · rw [i4.2.2.1, i3.2.2.1, i2.2.2.1, i1.2.2.1, p1.2.1]
    · rw [i4.2.2.2, i3.2.2.2, i2.2.2.2, i1.2.2.2, p1.2.2]
    · rw [i4.1, i3.1, i2.1, i1.1, p2]
    · rw [d4 q a4, d3 q a3, d2 q a2, d1 q a1, p3 q a1 a2 a3 a4]
    · rw [v o ho]
      by_cases e : i' = i
      · subst e; rw [if_pos rfl, (p4 o ho).2 _ (by omega)]
      · rw [if_neg (by omega), (p4 o ho).1 i' (by omega)]
    · rw [v o ho, if_neg (by omega), (p4 o ho).2 k hk]
  · rintro fuel h -
    rw [f_X9_copies_236, if_pos (by decide)]
theorem r_copies_329 {h0 : Hp} {m a b : Nat} (H : RO h0 m) (ha : a < 9) (hb : b < 9) (hab : a ≠ b) :
    ∃ h', f_X9_copies_329 fuelN (some m) (nI a) (nI b) 0 h0 = some ((), h') ∧ Sm h0 h' ∧ (∀ q, q ≠ m + 34 → hpI h' q = hpI h0 q) ∧ (∀ q, q ≠ m + 35 → hpD h' q = hpD h0 q) ∧ (∀ j, j < 64 → hpI h' (m + 34) (64 * b + j) = hpI h0 (m + 34) (64 * a + j) ∧ hpD h' (m + 35) (64 * b + j) = hpD h0 (m + 35) (64 * a + j)) ∧ (∀ k, (k < 64 * b ∨ 64 * b + 64 ≤ k) → hpI h' (m + 34) k = hpI h0 (m + 34) k ∧ hpD h' (m + 35) k = hpD h0 (m + 35) k) := by
  refine loop_rel (fun fuel i hh => f_X9_copies_329 fuel (some m) (nI a) (nI b) i hh) (fun i h => Sm h0 h ∧ (∀ q, q ≠ m + 34 → hpI h q = hpI h0 q) ∧ (∀ q, q ≠ m + 35 → hpD h q = hpD h0 q) ∧ (∀ j, j < i → hpI h (m + 34) (64 * b + j) = hpI h0 (m + 34) (64 * a + j) ∧ hpD h (m + 35) (64 * b + j) = hpD h0 (m + 35) (64 * a + j)) ∧ (∀ k, (k < 64 * b ∨ 64 * b + 64 ≤ k) → hpI h (m + 34) k = hpI h0 (m + 34) k ∧ hpD h (m + 35) k = hpD h0 (m + 35) k)) (n := 64) (res := fun h => some ((), h)) (by omega) ?_ ?_ h0 ⟨⟨rfl, rfl, rfl⟩, fun _ _ => rfl, fun _ _ => rfl, fun j hj => by omega, fun _ _ => ⟨rfl, rfl⟩⟩
  · rintro fuel i h hi ⟨p1, p2, p3, p4, p5⟩
    have H0 : RO h m := ⟨fun k => by rw [p1.2.2]; exact H.1 k, fun q hq => by rw [p1.2.1]; exact H.2 q hq⟩
    have l64 : (64 : Int32) = nI 64 := rfl
    rw [f_X9_copies_329, if_neg (show ¬ 64 ≤ nI i by rw [l64, ni_le (by omega) (by omega)]; omega)]
    simp only [l64, ni_mul, ni_add]
    generalize e1 : stI h (m + 34) (64 * b + i) (hpI h (m + 34) (64 * a + i)) = h1
    have R1 : RO h1 m := by rw [← e1]; exact H0
    rw [ro_g35 H0, Option.bind_some, Option.bind_some, ro_a35 H0 (by omega), Option.bind_some, ro_s35 H0 (by omega), Option.bind_some, e1]
    have dh : hpD h1 = hpD h := by rw [← e1]; rfl
    rw [ro_g36 R1, Option.bind_some, Option.bind_some, ro_a36 R1 (by omega), Option.bind_some, ro_s36 R1 (by omega), Option.bind_some, dh]
    have ih : ∀ q, q ≠ m + 34 → hpI h1 q = hpI h q := fun q hq => by rw [← e1]; exact hpI_stI_row hq
    have sm : hpS h1 = hpS h ∧ hpK h1 = hpK h ∧ hpR h1 = hpR h := by rw [← e1]; exact ⟨rfl, rfl, rfl⟩
    refine ⟨_, by rw [li1, ni_add], ⟨?_, ?_, ?_⟩, fun q hq => ?_, fun q hq => ?_, fun j hj => ?_, fun k hk => ?_⟩
    · rw [hpS_stD, sm.1, p1.1]
    · rw [hpK_stD, sm.2.1, p1.2.1]
    · rw [hpR_stD, sm.2.2, p1.2.2]
    · rw [hpI_stD, ih q hq, p2 q hq]
    · rw [hpD_stD_row hq, dh, p3 q hq]
    · by_cases e : j = i
      · subst e
        refine ⟨?_, ?_⟩
        · rw [hpI_stD, ← e1, hpI_stI_self, (p5 _ (by omega)).1]
        · rw [hpD_stD_self, (p5 _ (by omega)).2]
      · refine ⟨?_, ?_⟩
        · rw [hpI_stD, ← e1, hpI_stI_ne (Or.inr (by omega)), (p4 j (by omega)).1]
        · rw [hpD_stD_ne (Or.inr (by omega)), dh, (p4 j (by omega)).2]
    · refine ⟨?_, ?_⟩
      · rw [hpI_stD, ← e1, hpI_stI_ne (Or.inr (by omega)), (p5 k hk).1]
      · rw [hpD_stD_ne (Or.inr (by omega)), dh, (p5 k hk).2]
  · rintro fuel h -
    rw [f_X9_copies_329, if_pos (by decide)]
theorem nar_01 {v : Int32} (h : v = 0 ∨ v = 1) : vp_nar .boolean v = v := by rcases h with rfl | rfl <;> decide
theorem r_copies {h : Hp} {m a b n : Nat} {A : RecT} (H : RO h m) (ha : a < 9) (hb : b < 9) (hab : a ≠ b) (hn : n ≤ 6) (R : RR h m a n A) (h21 : A.1 21 0 = 0 ∨ A.1 21 0 = 1) (h22 : A.1 22 0 = 0 ∨ A.1 22 0 = 1) :
    ∃ h', f_X9_copies m (nI a) (nI b) h = some ((), h') ∧ Fs h h' m b ∧ RR h' m b n A := by
  obtain ⟨r1, r2, r3, r4, r5, r6, r7, r8, r9⟩ := id R
  have z21 : hpI h (m + 21) a = 0 ∨ hpI h (m + 21) a = 1 := by rw [r1 21 (by omega) (by omega)]; exact h21
  have z22 : hpI h (m + 22) a = 0 ∨ hpI h (m + 22) a = 1 := by rw [r1 22 (by omega) (by omega)]; exact h22
  unfold f_X9_copies
  generalize e1 : stI h (m + 14) b (hpI h (m + 14) a) = h1
  have i1 : ∀ q, q ≠ m + 14 → hpI h1 q = hpI h q := fun q hq => by rw [← e1]; exact hpI_stI_row hq
  have d1 : hpD h1 = hpD h := by rw [← e1]; rfl
  have v1 : hpI h1 (m + 14) b = hpI h (m + 14) a := by rw [← e1, hpI_stI_self]
  have R1 : RO h1 m := by rw [← e1]; exact H
  have F1 : Fs h h1 m b := by rw [← e1]; exact fs_stI _ (by omega)
  rw [ro_g15 H, Option.bind_some, Option.bind_some, ro_a15 H ha, Option.bind_some, ro_s15 H hb, Option.bind_some, e1]
  generalize e2 : stI h1 (m + 15) b (hpI h1 (m + 15) a) = h2
  have i2 : ∀ q, q ≠ m + 15 → hpI h2 q = hpI h1 q := fun q hq => by rw [← e2]; exact hpI_stI_row hq
  have d2 : hpD h2 = hpD h1 := by rw [← e2]; rfl
  have v2 : hpI h2 (m + 15) b = hpI h1 (m + 15) a := by rw [← e2, hpI_stI_self]
  have R2 : RO h2 m := by rw [← e2]; exact R1
  have F2 : Fs h1 h2 m b := by rw [← e2]; exact fs_stI _ (by omega)
  rw [ro_g16 R1, Option.bind_some, Option.bind_some, ro_a16 R1 ha, Option.bind_some, ro_s16 R1 hb, Option.bind_some, e2]
  generalize e3 : stI h2 (m + 16) b (hpI h2 (m + 16) a) = h3
  have i3 : ∀ q, q ≠ m + 16 → hpI h3 q = hpI h2 q := fun q hq => by rw [← e3]; exact hpI_stI_row hq
  have d3 : hpD h3 = hpD h2 := by rw [← e3]; rfl
  have v3 : hpI h3 (m + 16) b = hpI h2 (m + 16) a := by rw [← e3, hpI_stI_self]
  have R3 : RO h3 m := by rw [← e3]; exact R2
  have F3 : Fs h2 h3 m b := by rw [← e3]; exact fs_stI _ (by omega)
  rw [ro_g17 R2, Option.bind_some, Option.bind_some, ro_a17 R2 ha, Option.bind_some, ro_s17 R2 hb, Option.bind_some, e3]
  generalize e4 : stI h3 (m + 17) b (hpI h3 (m + 17) a) = h4
  have i4 : ∀ q, q ≠ m + 17 → hpI h4 q = hpI h3 q := fun q hq => by rw [← e4]; exact hpI_stI_row hq
  have d4 : hpD h4 = hpD h3 := by rw [← e4]; rfl
  have v4 : hpI h4 (m + 17) b = hpI h3 (m + 17) a := by rw [← e4, hpI_stI_self]
  have R4 : RO h4 m := by rw [← e4]; exact R3
  have F4 : Fs h3 h4 m b := by rw [← e4]; exact fs_stI _ (by omega)
  rw [ro_g18 R3, Option.bind_some, Option.bind_some, ro_a18 R3 ha, Option.bind_some, ro_s18 R3 hb, Option.bind_some, e4]
  generalize e5 : stI h4 (m + 18) b (hpI h4 (m + 18) a) = h5
  have i5 : ∀ q, q ≠ m + 18 → hpI h5 q = hpI h4 q := fun q hq => by rw [← e5]; exact hpI_stI_row hq
  have d5 : hpD h5 = hpD h4 := by rw [← e5]; rfl
  have v5 : hpI h5 (m + 18) b = hpI h4 (m + 18) a := by rw [← e5, hpI_stI_self]
  have R5 : RO h5 m := by rw [← e5]; exact R4
  have F5 : Fs h4 h5 m b := by rw [← e5]; exact fs_stI _ (by omega)
  rw [ro_g19 R4, Option.bind_some, Option.bind_some, ro_a19 R4 ha, Option.bind_some, ro_s19 R4 hb, Option.bind_some, e5]
  generalize e6 : stI h5 (m + 19) b (hpI h5 (m + 19) a) = h6
  have i6 : ∀ q, q ≠ m + 19 → hpI h6 q = hpI h5 q := fun q hq => by rw [← e6]; exact hpI_stI_row hq
  have d6 : hpD h6 = hpD h5 := by rw [← e6]; rfl
  have v6 : hpI h6 (m + 19) b = hpI h5 (m + 19) a := by rw [← e6, hpI_stI_self]
  have R6 : RO h6 m := by rw [← e6]; exact R5
  have F6 : Fs h5 h6 m b := by rw [← e6]; exact fs_stI _ (by omega)
  rw [ro_g20 R5, Option.bind_some, Option.bind_some, ro_a20 R5 ha, Option.bind_some, ro_s20 R5 hb, Option.bind_some, e6]
  generalize e7 : stI h6 (m + 20) b (hpI h6 (m + 20) a) = h7
  have i7 : ∀ q, q ≠ m + 20 → hpI h7 q = hpI h6 q := fun q hq => by rw [← e7]; exact hpI_stI_row hq
  have d7 : hpD h7 = hpD h6 := by rw [← e7]; rfl
  have v7 : hpI h7 (m + 20) b = hpI h6 (m + 20) a := by rw [← e7, hpI_stI_self]
  have R7 : RO h7 m := by rw [← e7]; exact R6
  have F7 : Fs h6 h7 m b := by rw [← e7]; exact fs_stI _ (by omega)
  rw [ro_g21 R6, Option.bind_some, Option.bind_some, ro_a21 R6 ha, Option.bind_some, ro_s21 R6 hb, Option.bind_some, e7]
  generalize e8 : stI h7 (m + 21) b (hpI h7 (m + 21) a) = h8
  have i8 : ∀ q, q ≠ m + 21 → hpI h8 q = hpI h7 q := fun q hq => by rw [← e8]; exact hpI_stI_row hq
  have d8 : hpD h8 = hpD h7 := by rw [← e8]; rfl
  have v8 : hpI h8 (m + 21) b = hpI h7 (m + 21) a := by rw [← e8, hpI_stI_self]
  have R8 : RO h8 m := by rw [← e8]; exact R7
  have F8 : Fs h7 h8 m b := by rw [← e8]; exact fs_stI _ (by omega)
  have nz8 : vp_nar .boolean (hpI h7 (m + 21) a) = hpI h7 (m + 21) a := nar_01 (by rw [i7 _ (by omega), i6 _ (by omega), i5 _ (by omega), i4 _ (by omega), i3 _ (by omega), i2 _ (by omega), i1 _ (by omega)]; exact z21)
  rw [ro_g22 R7, Option.bind_some, Option.bind_some, ro_a22 R7 ha, Option.bind_some, ro_s22 R7 hb, Option.bind_some, nz8, e8]
  generalize e9 : stI h8 (m + 22) b (hpI h8 (m + 22) a) = h9
  have i9 : ∀ q, q ≠ m + 22 → hpI h9 q = hpI h8 q := fun q hq => by rw [← e9]; exact hpI_stI_row hq
  have d9 : hpD h9 = hpD h8 := by rw [← e9]; rfl
  have v9 : hpI h9 (m + 22) b = hpI h8 (m + 22) a := by rw [← e9, hpI_stI_self]
  have R9 : RO h9 m := by rw [← e9]; exact R8
  have F9 : Fs h8 h9 m b := by rw [← e9]; exact fs_stI _ (by omega)
  have nz9 : vp_nar .boolean (hpI h8 (m + 22) a) = hpI h8 (m + 22) a := nar_01 (by rw [i8 _ (by omega), i7 _ (by omega), i6 _ (by omega), i5 _ (by omega), i4 _ (by omega), i3 _ (by omega), i2 _ (by omega), i1 _ (by omega)]; exact z22)
  rw [ro_g23 R8, Option.bind_some, Option.bind_some, ro_a23 R8 ha, Option.bind_some, ro_s23 R8 hb, Option.bind_some, nz9, e9]
  generalize e10 : stD h9 (m + 24) b (hpD h9 (m + 24) a) = h10
  have d10 : ∀ q, q ≠ m + 24 → hpD h10 q = hpD h9 q := fun q hq => by rw [← e10]; exact hpD_stD_row hq
  have i10 : hpI h10 = hpI h9 := by rw [← e10]; rfl
  have v10 : hpD h10 (m + 24) b = hpD h9 (m + 24) a := by rw [← e10, hpD_stD_self]
  have R10 : RO h10 m := by rw [← e10]; exact R9
  have F10 : Fs h9 h10 m b := by rw [← e10]; exact fs_stD _ (by omega)
  rw [ro_g25 R9, Option.bind_some, Option.bind_some, ro_a25 R9 ha, Option.bind_some, ro_s25 R9 hb, Option.bind_some, e10]
  generalize e11 : stD h10 (m + 25) b (hpD h10 (m + 25) a) = h11
  have d11 : ∀ q, q ≠ m + 25 → hpD h11 q = hpD h10 q := fun q hq => by rw [← e11]; exact hpD_stD_row hq
  have i11 : hpI h11 = hpI h10 := by rw [← e11]; rfl
  have v11 : hpD h11 (m + 25) b = hpD h10 (m + 25) a := by rw [← e11, hpD_stD_self]
  have R11 : RO h11 m := by rw [← e11]; exact R10
  have F11 : Fs h10 h11 m b := by rw [← e11]; exact fs_stD _ (by omega)
  rw [ro_g26 R10, Option.bind_some, Option.bind_some, ro_a26 R10 ha, Option.bind_some, ro_s26 R10 hb, Option.bind_some, e11]
  generalize e12 : stD h11 (m + 26) b (hpD h11 (m + 26) a) = h12
  have d12 : ∀ q, q ≠ m + 26 → hpD h12 q = hpD h11 q := fun q hq => by rw [← e12]; exact hpD_stD_row hq
  have i12 : hpI h12 = hpI h11 := by rw [← e12]; rfl
  have v12 : hpD h12 (m + 26) b = hpD h11 (m + 26) a := by rw [← e12, hpD_stD_self]
  have R12 : RO h12 m := by rw [← e12]; exact R11
  have F12 : Fs h11 h12 m b := by rw [← e12]; exact fs_stD _ (by omega)
  rw [ro_g27 R11, Option.bind_some, Option.bind_some, ro_a27 R11 ha, Option.bind_some, ro_s27 R11 hb, Option.bind_some, e12]
  generalize e13 : stD h12 (m + 27) b (hpD h12 (m + 27) a) = h13
  have d13 : ∀ q, q ≠ m + 27 → hpD h13 q = hpD h12 q := fun q hq => by rw [← e13]; exact hpD_stD_row hq
  have i13 : hpI h13 = hpI h12 := by rw [← e13]; rfl
  have v13 : hpD h13 (m + 27) b = hpD h12 (m + 27) a := by rw [← e13, hpD_stD_self]
  have R13 : RO h13 m := by rw [← e13]; exact R12
  have F13 : Fs h12 h13 m b := by rw [← e13]; exact fs_stD _ (by omega)
  rw [ro_g28 R12, Option.bind_some, Option.bind_some, ro_a28 R12 ha, Option.bind_some, ro_s28 R12 hb, Option.bind_some, e13]
  generalize e14 : stD h13 (m + 28) b (hpD h13 (m + 28) a) = h14
  have d14 : ∀ q, q ≠ m + 28 → hpD h14 q = hpD h13 q := fun q hq => by rw [← e14]; exact hpD_stD_row hq
  have i14 : hpI h14 = hpI h13 := by rw [← e14]; rfl
  have v14 : hpD h14 (m + 28) b = hpD h13 (m + 28) a := by rw [← e14, hpD_stD_self]
  have R14 : RO h14 m := by rw [← e14]; exact R13
  have F14 : Fs h13 h14 m b := by rw [← e14]; exact fs_stD _ (by omega)
  rw [ro_g29 R13, Option.bind_some, Option.bind_some, ro_a29 R13 ha, Option.bind_some, ro_s29 R13 hb, Option.bind_some, e14]
  generalize e15 : stI h14 (m + 36) b (hpI h14 (m + 36) a) = h15
  have i15 : ∀ q, q ≠ m + 36 → hpI h15 q = hpI h14 q := fun q hq => by rw [← e15]; exact hpI_stI_row hq
  have d15 : hpD h15 = hpD h14 := by rw [← e15]; rfl
  have v15 : hpI h15 (m + 36) b = hpI h14 (m + 36) a := by rw [← e15, hpI_stI_self]
  have R15 : RO h15 m := by rw [← e15]; exact R14
  have F15 : Fs h14 h15 m b := by rw [← e15]; exact fs_stI _ (by omega)
  rw [ro_g37 R14, Option.bind_some, Option.bind_some, ro_a37 R14 ha, Option.bind_some, ro_s37 R14 hb, Option.bind_some, e15]
  generalize e16 : stD h15 (m + 37) b (hpD h15 (m + 37) a) = h16
  have d16 : ∀ q, q ≠ m + 37 → hpD h16 q = hpD h15 q := fun q hq => by rw [← e16]; exact hpD_stD_row hq
  have i16 : hpI h16 = hpI h15 := by rw [← e16]; rfl
  have v16 : hpD h16 (m + 37) b = hpD h15 (m + 37) a := by rw [← e16, hpD_stD_self]
  have R16 : RO h16 m := by rw [← e16]; exact R15
  have F16 : Fs h15 h16 m b := by rw [← e16]; exact fs_stD _ (by omega)
  rw [ro_g38 R15, Option.bind_some, Option.bind_some, ro_a38 R15 ha, Option.bind_some, ro_s38 R15 hb, Option.bind_some, e16]
  generalize e17 : stD h16 (m + 38) b (hpD h16 (m + 38) a) = h17
  have d17 : ∀ q, q ≠ m + 38 → hpD h17 q = hpD h16 q := fun q hq => by rw [← e17]; exact hpD_stD_row hq
  have i17 : hpI h17 = hpI h16 := by rw [← e17]; rfl
  have v17 : hpD h17 (m + 38) b = hpD h16 (m + 38) a := by rw [← e17, hpD_stD_self]
  have R17 : RO h17 m := by rw [← e17]; exact R16
  have F17 : Fs h16 h17 m b := by rw [← e17]; exact fs_stD _ (by omega)
  rw [ro_g39 R16, Option.bind_some, Option.bind_some, ro_a39 R16 ha, Option.bind_some, ro_s39 R16 hb, Option.bind_some, e17]
  obtain ⟨g1, E1, S1, I1, D1, D2, D3, D4⟩ := r_copies_206 R17 ha hb hab
  have G1 : RO g1 m := ⟨fun k => by rw [S1.2.2]; exact R17.1 k, fun q hq => by rw [S1.2.1]; exact R17.2 q hq⟩
  obtain ⟨g2, E2, S2, J1, J2, J3⟩ := r_copies_236 G1 ha hb hab
  have G2 : RO g2 m := ⟨fun k => by rw [S2.2.2]; exact G1.1 k, fun q hq => by rw [S2.2.1]; exact G1.2 q hq⟩
  obtain ⟨g3, E3, S3, K1, K2, K3, K4⟩ := r_copies_329 G2 ha hb hab
  rw [E1, E2, E3]
  have FF := ((((((((((((((((F1.trans F2).trans F3).trans F4).trans F5).trans F6).trans F7).trans F8).trans F9).trans F10).trans F11).trans F12).trans F13).trans F14).trans F15).trans F16).trans F17)
  have LI : ∀ o, (o < 14 ∨ o = 23 ∨ (30 ≤ o ∧ o ≤ 35)) → hpI h17 (m + o) = hpI h (m + o) := fun o ho => by rw [i17, i16, i15 _ (by omega), i14, i13, i12, i11, i10, i9 _ (by omega), i8 _ (by omega), i7 _ (by omega), i6 _ (by omega), i5 _ (by omega), i4 _ (by omega), i3 _ (by omega), i2 _ (by omega), i1 _ (by omega)]
  have LD : ∀ o, (o < 24 ∨ (29 ≤ o ∧ o ≤ 36) ∨ (39 ≤ o ∧ o ≤ 43)) → hpD h17 (m + o) = hpD h (m + o) := fun o ho => by rw [d17 _ (by omega), d16 _ (by omega), d15, d14 _ (by omega), d13 _ (by omega), d12 _ (by omega), d11 _ (by omega), d10 _ (by omega), d9, d8, d7, d6, d5, d4, d3, d2, d1]
  have gI : ∀ q, q ≠ m + 34 → q ≠ m + 30 → q ≠ m + 31 → q ≠ m + 32 → q ≠ m + 33 → hpI g3 q = hpI h17 q := fun q a0 a1 a2 a3 a4 => by rw [K1 q a0, J2 q a1 a2 a3 a4, I1]
  have gD : ∀ q, q ≠ m + 35 → q ≠ m + 29 → q ≠ m + 39 → q ≠ m + 40 → q ≠ m + 41 → q ≠ m + 42 → q ≠ m + 43 → hpD g3 q = hpD h17 q := fun q a0 a1 a2 a3 a4 a5 a6 => by rw [K2 q a0, J1, D1 q a1 a2 a3 a4 a5 a6]
  have s14 : hpI g3 (m + 14) b = hpI h (m + 14) a := by rw [gI _ (by omega) (by omega) (by omega) (by omega) (by omega), i17, i16, i15 _ (by omega), i14, i13, i12, i11, i10, i9 _ (by omega), i8 _ (by omega), i7 _ (by omega), i6 _ (by omega), i5 _ (by omega), i4 _ (by omega), i3 _ (by omega), i2 _ (by omega), v1]
  have s15 : hpI g3 (m + 15) b = hpI h (m + 15) a := by rw [gI _ (by omega) (by omega) (by omega) (by omega) (by omega), i17, i16, i15 _ (by omega), i14, i13, i12, i11, i10, i9 _ (by omega), i8 _ (by omega), i7 _ (by omega), i6 _ (by omega), i5 _ (by omega), i4 _ (by omega), i3 _ (by omega), v2, i1 _ (by omega)]
  have s16 : hpI g3 (m + 16) b = hpI h (m + 16) a := by rw [gI _ (by omega) (by omega) (by omega) (by omega) (by omega), i17, i16, i15 _ (by omega), i14, i13, i12, i11, i10, i9 _ (by omega), i8 _ (by omega), i7 _ (by omega), i6 _ (by omega), i5 _ (by omega), i4 _ (by omega), v3, i2 _ (by omega), i1 _ (by omega)]
  have s17 : hpI g3 (m + 17) b = hpI h (m + 17) a := by rw [gI _ (by omega) (by omega) (by omega) (by omega) (by omega), i17, i16, i15 _ (by omega), i14, i13, i12, i11, i10, i9 _ (by omega), i8 _ (by omega), i7 _ (by omega), i6 _ (by omega), i5 _ (by omega), v4, i3 _ (by omega), i2 _ (by omega), i1 _ (by omega)]
  have s18 : hpI g3 (m + 18) b = hpI h (m + 18) a := by rw [gI _ (by omega) (by omega) (by omega) (by omega) (by omega), i17, i16, i15 _ (by omega), i14, i13, i12, i11, i10, i9 _ (by omega), i8 _ (by omega), i7 _ (by omega), i6 _ (by omega), v5, i4 _ (by omega), i3 _ (by omega), i2 _ (by omega), i1 _ (by omega)]
  have s19 : hpI g3 (m + 19) b = hpI h (m + 19) a := by rw [gI _ (by omega) (by omega) (by omega) (by omega) (by omega), i17, i16, i15 _ (by omega), i14, i13, i12, i11, i10, i9 _ (by omega), i8 _ (by omega), i7 _ (by omega), v6, i5 _ (by omega), i4 _ (by omega), i3 _ (by omega), i2 _ (by omega), i1 _ (by omega)]
  have s20 : hpI g3 (m + 20) b = hpI h (m + 20) a := by rw [gI _ (by omega) (by omega) (by omega) (by omega) (by omega), i17, i16, i15 _ (by omega), i14, i13, i12, i11, i10, i9 _ (by omega), i8 _ (by omega), v7, i6 _ (by omega), i5 _ (by omega), i4 _ (by omega), i3 _ (by omega), i2 _ (by omega), i1 _ (by omega)]
  have s21 : hpI g3 (m + 21) b = hpI h (m + 21) a := by rw [gI _ (by omega) (by omega) (by omega) (by omega) (by omega), i17, i16, i15 _ (by omega), i14, i13, i12, i11, i10, i9 _ (by omega), v8, i7 _ (by omega), i6 _ (by omega), i5 _ (by omega), i4 _ (by omega), i3 _ (by omega), i2 _ (by omega), i1 _ (by omega)]
  have s22 : hpI g3 (m + 22) b = hpI h (m + 22) a := by rw [gI _ (by omega) (by omega) (by omega) (by omega) (by omega), i17, i16, i15 _ (by omega), i14, i13, i12, i11, i10, v9, i8 _ (by omega), i7 _ (by omega), i6 _ (by omega), i5 _ (by omega), i4 _ (by omega), i3 _ (by omega), i2 _ (by omega), i1 _ (by omega)]
  have s24 : hpD g3 (m + 24) b = hpD h (m + 24) a := by rw [gD _ (by omega) (by omega) (by omega) (by omega) (by omega) (by omega) (by omega), d17 _ (by omega), d16 _ (by omega), d15, d14 _ (by omega), d13 _ (by omega), d12 _ (by omega), d11 _ (by omega), v10, d9, d8, d7, d6, d5, d4, d3, d2, d1]
  have s25 : hpD g3 (m + 25) b = hpD h (m + 25) a := by rw [gD _ (by omega) (by omega) (by omega) (by omega) (by omega) (by omega) (by omega), d17 _ (by omega), d16 _ (by omega), d15, d14 _ (by omega), d13 _ (by omega), d12 _ (by omega), v11, d10 _ (by omega), d9, d8, d7, d6, d5, d4, d3, d2, d1]
  have s26 : hpD g3 (m + 26) b = hpD h (m + 26) a := by rw [gD _ (by omega) (by omega) (by omega) (by omega) (by omega) (by omega) (by omega), d17 _ (by omega), d16 _ (by omega), d15, d14 _ (by omega), d13 _ (by omega), v12, d11 _ (by omega), d10 _ (by omega), d9, d8, d7, d6, d5, d4, d3, d2, d1]
  have s27 : hpD g3 (m + 27) b = hpD h (m + 27) a := by rw [gD _ (by omega) (by omega) (by omega) (by omega) (by omega) (by omega) (by omega), d17 _ (by omega), d16 _ (by omega), d15, d14 _ (by omega), v13, d12 _ (by omega), d11 _ (by omega), d10 _ (by omega), d9, d8, d7, d6, d5, d4, d3, d2, d1]
  have s28 : hpD g3 (m + 28) b = hpD h (m + 28) a := by rw [gD _ (by omega) (by omega) (by omega) (by omega) (by omega) (by omega) (by omega), d17 _ (by omega), d16 _ (by omega), d15, v14, d13 _ (by omega), d12 _ (by omega), d11 _ (by omega), d10 _ (by omega), d9, d8, d7, d6, d5, d4, d3, d2, d1]
  have s36 : hpI g3 (m + 36) b = hpI h (m + 36) a := by rw [gI _ (by omega) (by omega) (by omega) (by omega) (by omega), i17, i16, v15, i14, i13, i12, i11, i10, i9 _ (by omega), i8 _ (by omega), i7 _ (by omega), i6 _ (by omega), i5 _ (by omega), i4 _ (by omega), i3 _ (by omega), i2 _ (by omega), i1 _ (by omega)]
  have s37 : hpD g3 (m + 37) b = hpD h (m + 37) a := by rw [gD _ (by omega) (by omega) (by omega) (by omega) (by omega) (by omega) (by omega), d17 _ (by omega), v16, d15, d14 _ (by omega), d13 _ (by omega), d12 _ (by omega), d11 _ (by omega), d10 _ (by omega), d9, d8, d7, d6, d5, d4, d3, d2, d1]
  have s38 : hpD g3 (m + 38) b = hpD h (m + 38) a := by rw [gD _ (by omega) (by omega) (by omega) (by omega) (by omega) (by omega) (by omega), v17, d16 _ (by omega), d15, d14 _ (by omega), d13 _ (by omega), d12 _ (by omega), d11 _ (by omega), d10 _ (by omega), d9, d8, d7, d6, d5, d4, d3, d2, d1]
  have x6 : ∀ o, (o = 29 ∨ (39 ≤ o ∧ o ≤ 42)) → ∀ i, i < 6 → hpD g3 (m + o) (6 * b + i) = hpD h (m + o) (6 * a + i) := fun o ho i hi => by rw [K2 _ (by omega), J1, (D2 o ho).1 i hi, LD o (by omega)]
  have x43 : ∀ i, i < 6 → ∀ j, j < 5 → hpD g3 (m + 43) (5 * (6 * b + i) + j) = hpD h (m + 43) (5 * (6 * a + i) + j) := fun i hi j hj => by rw [K2 _ (by omega), J1, D3 i hi j hj, LD 43 (by omega)]
  have x30 : ∀ o, (30 ≤ o ∧ o ≤ 33) → ∀ i, i < 4 → hpI g3 (m + o) (4 * b + i) = hpI h (m + o) (4 * a + i) := fun o ho i hi => by rw [K1 _ (by omega), (J3 o ho).1 i hi, I1, LI o (by omega)]
  have x34 : ∀ j, j < 64 → hpI g3 (m + 34) (64 * b + j) = hpI h (m + 34) (64 * a + j) ∧ hpD g3 (m + 35) (64 * b + j) = hpD h (m + 35) (64 * a + j) := fun j hj => ⟨by rw [(K3 j hj).1, J2 _ (by omega) (by omega) (by omega) (by omega), I1, LI 34 (by omega)], by rw [(K3 j hj).2, J1, D1 _ (by omega) (by omega) (by omega) (by omega) (by omega) (by omega), LD 35 (by omega)]⟩
  refine ⟨g3, rfl, ⟨?_, ⟨?_, ?_, fun o h1 h2 => ⟨?_, ?_⟩⟩, fun q hq => ⟨?_, ?_⟩, fun k _ _ => ?_, ?_, fun s' hs' n' A' hn' r' => ?_⟩, ?_⟩
  · rw [S3.1, S2.1, S1.1, FF.1]
  · rw [S3.2.1, S2.2.1, S1.2.1, FF.2.1.1]
  · rw [S3.2.2, S2.2.2, S1.2.2, FF.2.1.2.1]
  · rw [gI _ (by omega) (by omega) (by omega) (by omega) (by omega), LI o (by omega)]
  · rw [gD _ (by omega) (by omega) (by omega) (by omega) (by omega) (by omega) (by omega), LD o (by omega)]
  · rw [gI _ (by omega) (by omega) (by omega) (by omega) (by omega), (FF.2.2.1 q hq).1]
  · rw [gD _ (by omega) (by omega) (by omega) (by omega) (by omega) (by omega) (by omega), (FF.2.2.1 q hq).2]
  · rw [gI _ (by omega) (by omega) (by omega) (by omega) (by omega)]; rename_i q1 q2; exact FF.2.2.2.1 k q1 q2
  · rw [gI _ (by omega) (by omega) (by omega) (by omega) (by omega), FF.2.2.2.2.1]
  · -- another slot
    obtain ⟨t1, t2, t3, t4, t5, t6, t7, t8, t9⟩ := FF.2.2.2.2.2 s' hs' n' A' hn' r'
    have y6 : ∀ o, (o = 29 ∨ (39 ≤ o ∧ o ≤ 42)) → ∀ i, i < 6 → hpD g3 (m + o) (6 * s' + i) = hpD h17 (m + o) (6 * s' + i) := fun o ho i hi => by rw [K2 _ (by omega), J1, (D2 o ho).2 _ (by omega)]
    refine ⟨fun o h1 h2 => ?_, ?_, fun o h1 h2 => ?_, ?_, ?_, fun i hi => ?_, fun o h1 h2 j hj => ?_, fun j hj => ⟨?_, ?_⟩, fun z => ?_⟩
    · rw [gI _ (by omega) (by omega) (by omega) (by omega) (by omega)]; exact t1 o h1 h2
    · rw [gI _ (by omega) (by omega) (by omega) (by omega) (by omega)]; exact t2
    · rw [gD _ (by omega) (by omega) (by omega) (by omega) (by omega) (by omega) (by omega)]; exact t3 o h1 h2
    · rw [gD _ (by omega) (by omega) (by omega) (by omega) (by omega) (by omega) (by omega)]; exact t4
    · rw [gD _ (by omega) (by omega) (by omega) (by omega) (by omega) (by omega) (by omega)]; exact t5
    · rw [y6 29 (by omega) i (by omega)]; exact t6 i hi
    · rw [K1 _ (by omega), (J3 o (by omega)).2 _ (by omega), I1]; exact t7 o h1 h2 j hj
    · rw [(K4 _ (by omega)).1, J2 _ (by omega) (by omega) (by omega) (by omega), I1]; exact (t8 j hj).1
    · rw [(K4 _ (by omega)).2, J1, D1 _ (by omega) (by omega) (by omega) (by omega) (by omega) (by omega)]; exact (t8 j hj).2
    · obtain ⟨u1, u2, u3⟩ := t9 z
      have s4 := (sgN_le (tc (A'.1 36 0))).2
      refine ⟨fun o h1 h2 i hi => ?_, fun j hj i hi => ?_, fun w i hi => ?_⟩
      · rw [y6 o (by omega) i (by omega)]; exact u1 o h1 h2 i hi
      · rw [K2 _ (by omega), J1, D4 _ (by omega)]; exact u2 j hj i hi
      · rw [K2 _ (by omega), J1, D4 _ (by omega)]; exact u3 w i hi
  · refine ⟨fun o h1 h2 => ?_, by rw [s36]; exact r2, fun o h1 h2 => ?_, by rw [s37]; exact r4, by rw [s38]; exact r5, fun i hi => by rw [x6 29 (by omega) i (by omega)]; exact r6 i hi, fun o h1 h2 j hj => by rw [x30 o (by omega) j hj]; exact r7 o h1 h2 j hj, fun j hj => by rw [(x34 j hj).1, (x34 j hj).2]; exact r8 j hj, fun z => ?_⟩
    · rcases (by omega : o = 14 ∨ o = 15 ∨ o = 16 ∨ o = 17 ∨ o = 18 ∨ o = 19 ∨ o = 20 ∨ o = 21 ∨ o = 22) with rfl | rfl | rfl | rfl | rfl | rfl | rfl | rfl | rfl
      · rw [s14]; exact r1 14 (by omega) (by omega)
      · rw [s15]; exact r1 15 (by omega) (by omega)
      · rw [s16]; exact r1 16 (by omega) (by omega)
      · rw [s17]; exact r1 17 (by omega) (by omega)
      · rw [s18]; exact r1 18 (by omega) (by omega)
      · rw [s19]; exact r1 19 (by omega) (by omega)
      · rw [s20]; exact r1 20 (by omega) (by omega)
      · rw [s21]; exact r1 21 (by omega) (by omega)
      · rw [s22]; exact r1 22 (by omega) (by omega)
    · rcases (by omega : o = 24 ∨ o = 25 ∨ o = 26 ∨ o = 27 ∨ o = 28) with rfl | rfl | rfl | rfl | rfl
      · rw [s24]; exact r3 24 (by omega) (by omega)
      · rw [s25]; exact r3 25 (by omega) (by omega)
      · rw [s26]; exact r3 26 (by omega) (by omega)
      · rw [s27]; exact r3 27 (by omega) (by omega)
      · rw [s28]; exact r3 28 (by omega) (by omega)
    · obtain ⟨u1, u2, u3⟩ := r9 z
      have s4 := (sgN_le (tc (A.1 36 0))).2
      refine ⟨fun o h1 h2 i hi => by rw [x6 o (by omega) i (by omega)]; exact u1 o h1 h2 i hi, fun j hj i hi => by rw [x43 i (by omega) j (by omega)]; exact u2 j hj i hi, fun w i hi => by rw [x43 i (by omega) 4 (by omega)]; exact u3 w i hi⟩
