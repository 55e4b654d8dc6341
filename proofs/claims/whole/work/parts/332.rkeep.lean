/-! ===== the reference keeps a step ===== -/
theorem loop_rel {β : Type} (F : Nat → Int32 → Hp → Option β) (P : Nat → Hp → Prop) {n : Nat} {res : Hp → Option β} (hn : n < 999)
    (hstep : ∀ fuel i h, i < n → P i h → ∃ h', F (fuel + 1) (nI i) h = F fuel (nI (i + 1)) h' ∧ P (i + 1) h')
    (hend : ∀ fuel h, P n h → F (fuel + 1) (nI n) h = res h) : ∀ h, P 0 h → ∃ h', F fuelN 0 h = res h' ∧ P n h' := by
  have key : ∀ (d i fuel : Nat) (h : Hp), i + d = n → d < fuel → P i h → ∃ h', F fuel (nI i) h = res h' ∧ P n h' := by
    intro d
    induction d with
    | zero =>
      intro i fuel h hi hf hp
      obtain ⟨fuel, rfl⟩ : ∃ j, fuel = j + 1 := ⟨fuel - 1, by omega⟩
      have : i = n := by omega
      subst this
      exact ⟨h, hend fuel h hp, hp⟩
    | succ d ih =>
      intro i fuel h hi hf hp
      obtain ⟨fuel, rfl⟩ : ∃ j, fuel = j + 1 := ⟨fuel - 1, by omega⟩
      obtain ⟨h', e, p⟩ := hstep fuel i h (by omega) hp
      obtain ⟨h2, e2, p2⟩ := ih (i + 1) fuel h' (by omega) (by omega) p
      exact ⟨h2, by rw [e, e2], p2⟩
  intro h hp
  exact key n 0 fuelN h (by omega) (by unfold fuelN; omega) hp
theorem hpD_stD_ne {h : Hp} {a k b j : Nat} {v : UInt64} (hb : b ≠ a ∨ j ≠ k) : hpD (stD h a k v) b j = hpD h b j := by
  rw [hpD_stD]
  by_cases q : b = a
  · rw [if_pos q, if_neg (by omega)]
  · rw [if_neg q]
theorem hpI_stI_ne {h : Hp} {a k b j : Nat} {v : Int32} (hb : b ≠ a ∨ j ≠ k) : hpI (stI h a k v) b j = hpI h b j := by
  rw [hpI_stI]
  by_cases q : b = a
  · rw [if_pos q, if_neg (by omega)]
  · rw [if_neg q]
theorem hpD_stD_self (h : Hp) (a k : Nat) (v : UInt64) : hpD (stD h a k v) a k = v := by simp [hpD_stD]
theorem hpD_stD_row {h : Hp} {a k b : Nat} {v : UInt64} (hb : b ≠ a) : hpD (stD h a k v) b = hpD h b := by funext j; exact hpD_stD_ne (Or.inl hb)
theorem hpI_stI_row {h : Hp} {a k b : Nat} {v : Int32} (hb : b ≠ a) : hpI (stI h a k v) b = hpI h b := by funext j; exact hpI_stI_ne (Or.inl hb)
/-- what the rows of the kept step hold after i turns -/
def KP (h0 : Hp) (m s : Nat) (i : Nat) (h : Hp) : Prop :=
  Fs h0 h m s ∧ hpI h = hpI h0 ∧ (∀ a, a ≠ m + 39 → a ≠ m + 40 → a ≠ m + 41 → a ≠ m + 43 → hpD h a = hpD h0 a) ∧
  ∀ i', i' < i → hpD h (m + 39) (6 * s + i') = hpD h0 (m + 45) i' ∧ hpD h (m + 40) (6 * s + i') = hpD h0 (m + 47) i' ∧ hpD h (m + 41) (6 * s + i') = hpD h0 (m + 50) i' ∧ (∀ j, j < 4 → hpD h (m + 43) (5 * (6 * s + i') + j) = hpD h0 (m + 50 + j) i') ∧ hpD h (m + 43) (5 * (6 * s + i') + 4) = hpD h0 (m + 49) i'
theorem r_keep_52 {h0 : Hp} {m s l n : Nat} {hf : UInt64} (H : RO h0 m) (hs : s < 9) (hn : n ≤ 6) :
    ∃ h', f_X9_keepsStep_52 fuelN (some m) (nI s) (nI l) (nI n) hf 0 h0 = (fun h => (getR h (some m) 9 25).bind fun x2 =>
      (aldD h x2 (nI s)).bind fun x3 =>
      (fop (FP.dadd x3 hf)).bind fun x4 =>
      (getR h (some m) 9 49).bind fun x5 =>
      (getR h (some m) 9 50).bind fun x6 =>
      (ab_ck h (some m) (9, 0)).bind fun a10 =>
      bnd (f_X9_rates a10 (nI l) x4 x5 x6 h) fun _ h8 =>
      f_X9_keepsStep_228 fuelN (some m) (nI s) (nI n) 0 h8) h' ∧ KP h0 m s n h' := by
  refine loop_rel (fun fuel i hh => f_X9_keepsStep_52 fuel (some m) (nI s) (nI l) (nI n) hf i hh) (KP h0 m s) (by omega) ?_ ?_ h0 ⟨Fs.refl h0 m s, rfl, fun _ _ _ _ _ => rfl, fun i' hi => by omega⟩
  · intro fuel i h hi P
    obtain ⟨p1, p2, p3, p4⟩ := P
    have H0 : RO h m := le_RO p1.2.1 H
    have H1 : ∀ a k v, RO (stD h a k v) m := fun a k v => H0
    simp only [f_X9_keepsStep_52, if_neg (show ¬ nI n ≤ nI i by rw [ni_le (by omega) (by omega)]; omega), li6, li5, ni_mul, ni_add, li1, li2, li3, li4]
    generalize e1 : stD h (m + 39) (6 * s + i) (hpD h (m + 45) i) = h1
    have R1 : RO h1 m := by rw [← e1]; exact H0
    rw [ro_g40 H0, Option.bind_some, ro_g47 H0, Option.bind_some, ro_a47 H0 (by omega), Option.bind_some, ro_s40 H0 (by omega), Option.bind_some, e1]
    generalize e2 : stD h1 (m + 40) (6 * s + i) (hpD h1 (m + 47) i) = h2
    have R2 : RO h2 m := by rw [← e2]; exact R1
    rw [ro_g41 R1, Option.bind_some, ro_g49 R1, Option.bind_some, ro_a49 R1 (by omega), Option.bind_some, ro_s41 R1 (by omega), Option.bind_some, e2]
    generalize e3 : stD h2 (m + 41) (6 * s + i) (hpD h2 (m + 50) i) = h3
    have R3 : RO h3 m := by rw [← e3]; exact R2
    rw [ro_g42 R2, Option.bind_some, ro_g52 R2, Option.bind_some, ro_a52 R2 (by omega), Option.bind_some, ro_s42 R2 (by omega), Option.bind_some, e3]
    generalize e4 : stD h3 (m + 43) (5 * (6 * s + i)) (hpD h3 (m + 50) i) = h4
    have R4 : RO h4 m := by rw [← e4]; exact R3
    rw [ro_g44 R3, Option.bind_some, ro_g52 R3, Option.bind_some, ro_a52 R3 (by omega), Option.bind_some, ro_s44 R3 (by omega), Option.bind_some, e4]
    generalize e5 : stD h4 (m + 43) (5 * (6 * s + i) + 1) (hpD h4 (m + 51) i) = h5
    have R5 : RO h5 m := by rw [← e5]; exact R4
    rw [ro_g44 R4, Option.bind_some, ro_g53 R4, Option.bind_some, ro_a53 R4 (by omega), Option.bind_some, ro_s44 R4 (by omega), Option.bind_some, e5]
    generalize e6 : stD h5 (m + 43) (5 * (6 * s + i) + 2) (hpD h5 (m + 52) i) = h6
    have R6 : RO h6 m := by rw [← e6]; exact R5
    rw [ro_g44 R5, Option.bind_some, ro_g54 R5, Option.bind_some, ro_a54 R5 (by omega), Option.bind_some, ro_s44 R5 (by omega), Option.bind_some, e6]
    generalize e7 : stD h6 (m + 43) (5 * (6 * s + i) + 3) (hpD h6 (m + 53) i) = h7
    have R7 : RO h7 m := by rw [← e7]; exact R6
    rw [ro_g44 R6, Option.bind_some, ro_g55 R6, Option.bind_some, ro_a55 R6 (by omega), Option.bind_some, ro_s44 R6 (by omega), Option.bind_some, e7]
    rw [ro_g44 R7, Option.bind_some, ro_g51 R7, Option.bind_some, ro_a51 R7 (by omega), Option.bind_some, ro_s44 R7 (by omega), Option.bind_some]
    refine ⟨_, rfl, ?_⟩
    have v1 : ∀ a, a ≠ m + 39 → hpD h1 a = hpD h a := fun a ha => by rw [← e1]; exact hpD_stD_row ha
    have v2 : ∀ a, a ≠ m + 40 → hpD h2 a = hpD h1 a := fun a ha => by rw [← e2]; exact hpD_stD_row ha
    have v3 : ∀ a, a ≠ m + 41 → hpD h3 a = hpD h2 a := fun a ha => by rw [← e3]; exact hpD_stD_row ha
    have v4 : ∀ a, a ≠ m + 43 → hpD h4 a = hpD h3 a := fun a ha => by rw [← e4]; exact hpD_stD_row ha
    have v5 : ∀ a, a ≠ m + 43 → hpD h5 a = hpD h4 a := fun a ha => by rw [← e5]; exact hpD_stD_row ha
    have v6 : ∀ a, a ≠ m + 43 → hpD h6 a = hpD h5 a := fun a ha => by rw [← e6]; exact hpD_stD_row ha
    have v7 : ∀ a, a ≠ m + 43 → hpD h7 a = hpD h6 a := fun a ha => by rw [← e7]; exact hpD_stD_row ha
    have F1 : Fs h h1 m s := by rw [← e1]; exact fs_stD _ (by omega)
    have F2 : Fs h1 h2 m s := by rw [← e2]; exact fs_stD _ (by omega)
    have F3 : Fs h2 h3 m s := by rw [← e3]; exact fs_stD _ (by omega)
    have F4 : Fs h3 h4 m s := by rw [← e4]; exact fs_stD _ (by omega)
    have F5 : Fs h4 h5 m s := by rw [← e5]; exact fs_stD _ (by omega)
    have F6 : Fs h5 h6 m s := by rw [← e6]; exact fs_stD _ (by omega)
    have F7 : Fs h6 h7 m s := by rw [← e7]; exact fs_stD _ (by omega)
    have wk : ∀ o, 44 ≤ o → hpD h7 (m + o) = hpD h0 (m + o) := fun o ho => by
      rw [v7 _ (by omega), v6 _ (by omega), v5 _ (by omega), v4 _ (by omega), v3 _ (by omega), v2 _ (by omega), v1 _ (by omega), p3 _ (by omega) (by omega) (by omega) (by omega)]
    have w6 : ∀ o, 44 ≤ o → hpD h6 (m + o) = hpD h0 (m + o) := fun o ho => by rw [← v7 _ (by omega)]; exact wk o ho
    have w5 : ∀ o, 44 ≤ o → hpD h5 (m + o) = hpD h0 (m + o) := fun o ho => by rw [← v6 _ (by omega)]; exact w6 o ho
    have w4 : ∀ o, 44 ≤ o → hpD h4 (m + o) = hpD h0 (m + o) := fun o ho => by rw [← v5 _ (by omega)]; exact w5 o ho
    have w3 : ∀ o, 44 ≤ o → hpD h3 (m + o) = hpD h0 (m + o) := fun o ho => by rw [← v4 _ (by omega)]; exact w4 o ho
    have w2 : ∀ o, 44 ≤ o → hpD h2 (m + o) = hpD h0 (m + o) := fun o ho => by rw [← v3 _ (by omega)]; exact w3 o ho
    have w1 : ∀ o, 44 ≤ o → hpD h1 (m + o) = hpD h0 (m + o) := fun o ho => by rw [← v2 _ (by omega)]; exact w2 o ho
    have w0 : ∀ o, 44 ≤ o → hpD h (m + o) = hpD h0 (m + o) := fun o ho => by rw [← v1 _ (by omega)]; exact w1 o ho
    have I7 : hpI h7 = hpI h0 := by rw [← e7, hpI_stD, ← e6, hpI_stD, ← e5, hpI_stD, ← e4, hpI_stD, ← e3, hpI_stD, ← e2, hpI_stD, ← e1, hpI_stD, p2]
    refine ⟨((((((p1.trans F1).trans F2).trans F3).trans F4).trans F5).trans F6).trans F7 |>.trans (fs_stD _ (by omega)), I7, fun a a1 a2 a3 a4 => ?_, fun i' hi' => ?_⟩
    · rw [hpD_stD_row a4, v7 _ a4, v6 _ a4, v5 _ a4, v4 _ a4, v3 _ a3, v2 _ a2, v1 _ a1, p3 _ a1 a2 a3 a4]
    · by_cases e : i' = i
      · subst e
        refine ⟨?_, ?_, ?_, fun j hj => ?_, ?_⟩
        · rw [hpD_stD_row (by omega), v7 _ (by omega), v6 _ (by omega), v5 _ (by omega), v4 _ (by omega), v3 _ (by omega), v2 _ (by omega), ← e1, hpD_stD_self, w0 45 (by omega)]
        · rw [hpD_stD_row (by omega), v7 _ (by omega), v6 _ (by omega), v5 _ (by omega), v4 _ (by omega), v3 _ (by omega), ← e2, hpD_stD_self, w1 47 (by omega)]
        · rw [hpD_stD_row (by omega), v7 _ (by omega), v6 _ (by omega), v5 _ (by omega), v4 _ (by omega), ← e3, hpD_stD_self, w2 50 (by omega)]
        · rw [hpD_stD_ne (Or.inr (by omega))]
          rcases (by omega : j = 0 ∨ j = 1 ∨ j = 2 ∨ j = 3) with rfl | rfl | rfl | rfl
          · rw [← e7, hpD_stD_ne (Or.inr (by omega)), ← e6, hpD_stD_ne (Or.inr (by omega)), ← e5, hpD_stD_ne (Or.inr (by omega)), ← e4]
            show hpD (stD h3 (m + 43) (5 * (6 * s + i')) (hpD h3 (m + 50) i')) (m + 43) (5 * (6 * s + i')) = hpD h0 (m + 50) i'
            rw [hpD_stD_self, w3 50 (by omega)]
          · rw [← e7, hpD_stD_ne (Or.inr (by omega)), ← e6, hpD_stD_ne (Or.inr (by omega)), ← e5, hpD_stD_self, w4 51 (by omega)]
          · rw [← e7, hpD_stD_ne (Or.inr (by omega)), ← e6, hpD_stD_self, w5 52 (by omega)]
          · rw [← e7, hpD_stD_self, w6 53 (by omega)]
        · rw [hpD_stD_self, wk 49 (by omega)]
      · obtain ⟨q1, q2, q3, q4, q5⟩ := p4 i' (by omega)
        have kk : ∀ j, j < 5 → hpD h7 (m + 43) (5 * (6 * s + i') + j) = hpD h (m + 43) (5 * (6 * s + i') + j) := fun j hj => by
          rw [← e7, hpD_stD_ne (Or.inr (by omega)), ← e6, hpD_stD_ne (Or.inr (by omega)), ← e5, hpD_stD_ne (Or.inr (by omega)), ← e4, hpD_stD_ne (Or.inr (by omega)), v3 _ (by omega), v2 _ (by omega), v1 _ (by omega)]
        refine ⟨?_, ?_, ?_, fun j hj => ?_, ?_⟩
        · rw [hpD_stD_row (by omega), v7 _ (by omega), v6 _ (by omega), v5 _ (by omega), v4 _ (by omega), v3 _ (by omega), v2 _ (by omega), ← e1, hpD_stD_ne (Or.inr (by omega)), q1]
        · rw [hpD_stD_row (by omega), v7 _ (by omega), v6 _ (by omega), v5 _ (by omega), v4 _ (by omega), v3 _ (by omega), ← e2, hpD_stD_ne (Or.inr (by omega)), v1 _ (by omega), q2]
        · rw [hpD_stD_row (by omega), v7 _ (by omega), v6 _ (by omega), v5 _ (by omega), v4 _ (by omega), ← e3, hpD_stD_ne (Or.inr (by omega)), v2 _ (by omega), v1 _ (by omega), q3]
        · rw [hpD_stD_ne (Or.inr (by omega)), kk j (by omega), q4 j hj]
        · rw [hpD_stD_ne (Or.inr (by omega)), kk 4 (by omega), q5]
  · intro fuel h P
    simp only [f_X9_keepsStep_52, if_pos (show nI n ≤ nI n from (ni_le (by omega) (by omega)).mpr (Nat.le_refl _))]
theorem r_keep_228 {h0 : Hp} {m s n : Nat} (H : RO h0 m) (hs : s < 9) (hn : n ≤ 6) :
    ∃ h', f_X9_keepsStep_228 fuelN (some m) (nI s) (nI n) 0 h0 = some ((), h') ∧ Fs h0 h' m s ∧ hpI h' = hpI h0 ∧ (∀ a, a ≠ m + 42 → hpD h' a = hpD h0 a) ∧ ∀ i, i < n → hpD h' (m + 42) (6 * s + i) = hpD h0 (m + 48) i := by
  refine loop_rel (fun fuel i hh => f_X9_keepsStep_228 fuel (some m) (nI s) (nI n) i hh) (fun i h => Fs h0 h m s ∧ hpI h = hpI h0 ∧ (∀ a, a ≠ m + 42 → hpD h a = hpD h0 a) ∧ ∀ i', i' < i → hpD h (m + 42) (6 * s + i') = hpD h0 (m + 48) i') (res := fun h => some ((), h)) (by omega) ?_ ?_ h0 ⟨Fs.refl h0 m s, rfl, fun _ _ => rfl, fun i' hi => by omega⟩
  · rintro fuel i h hi ⟨p1, p2, p3, p4⟩
    have H0 : RO h m := le_RO p1.2.1 H
    simp only [f_X9_keepsStep_228, if_neg (show ¬ nI n ≤ nI i by rw [ni_le (by omega) (by omega)]; omega), li6, ni_mul, ni_add, li1]
    rw [ro_g43 H0, Option.bind_some, ro_g50 H0, Option.bind_some, ro_a50 H0 (by omega), Option.bind_some, ro_s43 H0 (by omega), Option.bind_some]
    refine ⟨_, rfl, p1.trans (fs_stD _ (by omega)), p2, fun a ha => by rw [hpD_stD_row ha, p3 a ha], fun i' hi' => ?_⟩
    by_cases e : i' = i
    · subst e
      rw [hpD_stD_self, p3 _ (by omega)]
    · rw [hpD_stD_ne (Or.inr (by omega)), p4 i' (by omega)]
  · intro fuel h P
    simp only [f_X9_keepsStep_228, if_pos (show nI n ≤ nI n from (ni_le (by omega) (by omega)).mpr (Nat.le_refl _))]
