/-! ===== a step is copied; what lies between ===== -/
theorem s0_g1 {h : Hp} {T k : Nat} (S : S0 h T k) : getR h (some T) 6 1 = some (hpR h T 1) := getR_ok S.1
theorem s0_g6 {h : Hp} {T k : Nat} (S : S0 h T k) : getR h (some T) 6 6 = some (some (T + 1)) := by rw [getR_ok S.1, S.2.2.1]
theorem s0_g8 {h : Hp} {T k : Nat} (S : S0 h T k) : getR h (some T) 6 8 = some (some (T + 7)) := by rw [getR_ok S.1, S.2.2.2.2.1]
theorem s0_g9 {h : Hp} {T k : Nat} (S : S0 h T k) : getR h (some T) 6 9 = some (some (T + 10)) := by rw [getR_ok S.1, S.2.2.2.2.2.1]
theorem s0_g10 {h : Hp} {T k : Nat} (S : S0 h T k) : getR h (some T) 6 10 = some (some (T + 23)) := by rw [getR_ok S.1, S.2.2.2.2.2.2.1]
theorem s0_g11 {h : Hp} {T k : Nat} (S : S0 h T k) : getR h (some T) 6 11 = some (some (T + 26)) := by rw [getR_ok S.1, S.2.2.2.2.2.2.2.1]
theorem s0_k {h : Hp} {T k j : Nat} (S : S0 h T k) (hj : j < 4) : aldR h (some (T + 10)) 14 (nI j) = some (some (T + (11 + 3 * j))) := by
  rw [aldR_ok S.2.2.2.2.2.2.2.2.1 (ni_in hj (by omega)), ni_cl (by omega), S.2.2.2.2.2.2.2.2.2.1 j hj]
theorem s0_len {h : Hp} {T k : Nat} (S : S0 h T k) : alen h (some (T + 10)) 14 = some (nI 4) := alen_ok S.2.2.2.2.2.2.2.2.1
theorem s0_r {h : Hp} {T k r : Nat} (S : S0 h T k) (hr : IsR r) : RW h (T + r) 6 := S.2.2.2.2.2.2.2.2.2.2 r hr
/-- what a step tells -/
def SC (h h' : Hp) (T T' : Nat) : Prop := hpI h' T' 2 = hpI h T 2 ∧ hpI h' T' 13 = hpI h T 13 ∧ hpD h' T' 3 = hpD h T 3 ∧ hpD h' T' 4 = hpD h T 4 ∧ hpD h' T' 5 = hpD h T 5 ∧ hpD h' T' 12 = hpD h T 12 ∧ ∀ r, IsR r → r ≠ 4 → ∀ i, i < 6 → RV h' (T' + r) i = RV h (T + r) i
theorem c_stepcopy {h : Hp} {T' T k k' : Nat} (D : S0 h T' k) (S : S0 h T k) (dj : T' + 29 ≤ T ∨ T + 29 ≤ T') (n' : SN h T') (n0 : SN h T) :
    ∃ h', f_X6_copy T' (some T) h = some ((), h') ∧ Fr (fun a => T' ≤ a ∧ a < T' + 29) (stR h T' 1 (hpR h T 1)) h' ∧ SN h' T' ∧ SC h h' T T' := by
  have KD := D.1
  have KS := S.1
  have nT : T ≠ T' := by omega
  have D1 : S0 (stR h T' 1 (hpR h T 1)) T' k := s0_stR D (by rw [KD]; decide) (by rw [KD]; decide) (fun _ => rfl)
  have S1 : S0 (stR h T' 1 (hpR h T 1)) T k := s0_stR S (by rw [KD]; decide) (by rw [KD]; decide) (fun e => absurd e.symm nT)
  generalize e1 : stR h T' 1 (hpR h T 1) = h1 at D1 S1
  have hI1 : hpI h1 = hpI h := by rw [← e1]; rfl
  have hD1 : hpD h1 = hpD h := by rw [← e1]; rfl
  generalize e5 : stD (stD (stD (stI h1 T' 2 (hpI h T 2)) T' 3 (hpD h T 3)) T' 4 (hpD h T 4)) T' 5 (hpD h T 5) = h5
  have F5 : Fr (fun a => a = T') h1 h5 := by rw [← e5]; exact fr_stD (fr_stD (fr_stD (fr_stI (Fr.refl _ h1) rfl) rfl) rfl) rfl
  have D5 := fr_S0 F5 D1
  have S5 := fr_S0 F5 S1
  have i5 : hpI h5 T' 2 = hpI h T 2 := by rw [← e5]; show hpI (stI h1 T' 2 (hpI h T 2)) T' 2 = _; exact hpI_stI_self _ _ _ _
  have d5 : hpD h5 T' 3 = hpD h T 3 ∧ hpD h5 T' 4 = hpD h T 4 ∧ hpD h5 T' 5 = hpD h T 5 := by
    rw [← e5]
    refine ⟨?_, ?_, hpD_stD_self _ _ _ _⟩
    · rw [hpD_stD_ne (Or.inr (by omega)), hpD_stD_ne (Or.inr (by omega)), hpD_stD_self]
    · rw [hpD_stD_ne (Or.inr (by omega)), hpD_stD_self]
  have sI5 : hpI h5 T = hpI h T := by rw [(F5.2.2.2 T (by omega)).1, hI1]
  have sD5 : hpD h5 T = hpD h T := by rw [(F5.2.2.2 T (by omega)).2, hD1]
  have n5 : SN h5 T := fun r hr => fr_RN F5 (by have := isr_le hr; omega) (by have := isr_le hr; omega) (fun i hi => by rw [hI1, hD1]; exact n0 r hr i hi)
  have n5' : SN h5 T' := fun r hr => fr_RN F5 (by have := isr_le hr; omega) (by have := isr_le hr; omega) (fun i hi => by rw [hI1, hD1]; exact n' r hr i hi)
  have v5 : ∀ r, IsR r → RV h5 (T + r) = RV h (T + r) := fun r hr => by
    rw [fr_RV F5 (by have := isr_le hr; omega) (by have := isr_le hr; omega)]
    funext i; unfold RV; rw [hI1, hD1]
  have C0 : CPI (fun _ => False) T' T h5 h5 := ⟨Fr.refl _ h5, n5', fun _ _ z => z.elim, rfl, rfl⟩
  obtain ⟨a1, C1⟩ := cp_one C0 D5 S5 n5 dj i1
  generalize cpV h5 (T' + 1) (T + 1) 6 = g1 at a1 C1
  obtain ⟨a2, C2⟩ := cp_one C1 D5 S5 n5 dj i7
  generalize cpV g1 (T' + 7) (T + 7) 6 = g2 at a2 C2
  obtain ⟨g3, a3, C3⟩ := loop_rel (fun fuel i hh => f_X6_copy_64 fuel (some T') (some T) i hh) (fun i hh => CPI (fun q => q = 1 ∨ q = 7 ∨ ∃ j, j < i ∧ q = 11 + 3 * j) T' T h5 hh) (n := 4) (res := fun hh =>
      bnd (f_X3_copy (T' + 23) (some (T + 23)) hh) fun _ h7 =>
      (getR h7 (some T') 6 11).bind fun x11 =>
      (getR h7 (some T) 6 11).bind fun x12 =>
      (ab_ck h7 x11 (3, 0)).bind fun a16 =>
      bnd (f_X3_copy a16 x12 h7) fun _ h14 =>
      (getD h14 (some T) 6 12).bind fun x18 =>
      (putD h14 (some T') 6 12 x18).bind fun h19 =>
      (getI h19 (some T) 6 13).bind fun x20 =>
      (putI h19 (some T') 6 13 x20).bind fun h21 =>
      some ((), h21)) (by omega) (by
    intro fuel i hi h4 C
    obtain ⟨a, C'⟩ := cp_one C D5 S5 n5 dj (isr_k h4)
    have Di := fr_S0 C.1 D5
    have Si := fr_S0 C.1 S5
    refine ⟨_, ?_, C'.1, C'.2.1, fun r hr dn => C'.2.2.1 r hr (by
      rcases dn with e | e | ⟨j, e1, e2⟩
      · exact Or.inr (Or.inl e)
      · exact Or.inr (Or.inr (Or.inl e))
      · by_cases e3 : j = i
        · exact Or.inl (by rw [e2, e3])
        · exact Or.inr (Or.inr (Or.inr ⟨j, by omega, e2⟩))), C'.2.2.2⟩
    show f_X6_copy_64 (fuel + 1) (some T') (some T) (nI i) hi = f_X6_copy_64 fuel (some T') (some T) (nI (i + 1)) _
    rw [f_X6_copy_64, s0_g9 Di, Option.bind_some, s0_len Di, Option.bind_some, if_neg (by rw [ni_le (by omega) (by omega)]; omega), Option.bind_some, s0_k Di h4, Option.bind_some, s0_g9 Si, Option.bind_some, s0_k Si h4, Option.bind_some, rw_ck (s0_r Di (isr_k h4)), Option.bind_some, a, bnd_some, li1, ni_add]) (by
    intro fuel hi C
    have Di := fr_S0 C.1 D5
    have Si := fr_S0 C.1 S5
    show f_X6_copy_64 (fuel + 1) (some T') (some T) (nI 4) hi = _
    rw [f_X6_copy_64, s0_g9 Di, Option.bind_some, s0_len Di, Option.bind_some, if_pos ((ni_le (by omega) (by omega)).mpr (Nat.le_refl _)), s0_g10 Di, Option.bind_some, s0_g10 Si, Option.bind_some, rw_ck (s0_r Di i23), Option.bind_some]) g2 ⟨C2.1, C2.2.1, fun r hr dn => C2.2.2.1 r hr (by
      rcases dn with e | e | ⟨j, e1, e2⟩
      · exact Or.inr (Or.inl e)
      · exact Or.inl e
      · omega), C2.2.2.2⟩
  obtain ⟨a4, C4⟩ := cp_one C3 D5 S5 n5 dj i23
  generalize cpV g3 (T' + 23) (T + 23) 6 = g4 at a4 C4
  obtain ⟨a6, C6⟩ := cp_one C4 D5 S5 n5 dj i26
  generalize cpV g4 (T' + 26) (T + 26) 6 = g6 at a6 C6
  have D4 := fr_S0 C4.1 D5
  have S4 := fr_S0 C4.1 S5
  have D6 := fr_S0 C6.1 D5
  have S6 := fr_S0 C6.1 S5
  have F7 : Fr (fun a => a = T') g6 (stI (stD g6 T' 12 (hpD h T 12)) T' 13 (hpI h T 13)) := fr_stI (fr_stD (Fr.refl _ g6) rfl) rfl
  have o6I : hpI g6 T = hpI h T := by rw [(C6.1.2.2.2 T (by omega)).1, sI5]
  have o6D : hpD g6 T = hpD h T := by rw [(C6.1.2.2.2 T (by omega)).2, sD5]
  refine ⟨stI (stD g6 T' 12 (hpD h T 12)) T' 13 (hpI h T 13), ?_, ?_, ?_, ?_⟩
  · unfold f_X6_copy
    have x1 : ∀ (v : Option Nat), hpK (stR h T' 1 v) T' = some (6, 0) := fun _ => KD
    have x2 : ∀ (v : Option Nat), hpK (stR h T' 1 v) T = some (6, 0) := fun _ => KS
    have y1 : hpK h1 T' = some (6, 0) := D1.1
    have y2 : hpK h1 T = some (6, 0) := S1.1
    have gI : ∀ j, getI h1 (some T) 6 j = some (hpI h T j) := fun j => by rw [getI_ok y2, hI1]
    have b1 : ∀ j (hh : Hp), hpK hh T = some (6, 0) → hpD hh T = hpD h T → getD hh (some T) 6 j = some (hpD h T j) := fun j hh q1 q2 => by rw [getD_ok q1, q2]
    have n2 : T ≠ T' := nT
    have dd : ∀ (hh : Hp) (j : Nat) (v : UInt64), hpD hh T = hpD h T → hpD (stD hh T' j v) T = hpD h T := fun hh j v q => by rw [hpD_stD_row n2]; exact q
    have q1 : hpD (stI h1 T' 2 (hpI h T 2)) T = hpD h T := by show hpD h1 T = _; rw [hD1]
    rw [getR_ok KS, Option.bind_some, putR_ok KD, Option.bind_some, e1, gI, Option.bind_some, putI_ok y1, Option.bind_some, b1 3 (stI h1 T' 2 (hpI h T 2)) y2 q1, Option.bind_some, putD_ok (show hpK (stI h1 T' 2 (hpI h T 2)) T' = some (6, 0) from y1), Option.bind_some, b1 4 (stD (stI h1 T' 2 (hpI h T 2)) T' 3 (hpD h T 3)) y2 (dd _ _ _ q1), Option.bind_some, putD_ok (show hpK (stD (stI h1 T' 2 (hpI h T 2)) T' 3 (hpD h T 3)) T' = some (6, 0) from y1), Option.bind_some, b1 5 (stD (stD (stI h1 T' 2 (hpI h T 2)) T' 3 (hpD h T 3)) T' 4 (hpD h T 4)) y2 (dd _ _ _ (dd _ _ _ q1)), Option.bind_some, putD_ok (show hpK (stD (stD (stI h1 T' 2 (hpI h T 2)) T' 3 (hpD h T 3)) T' 4 (hpD h T 4)) T' = some (6, 0) from y1), Option.bind_some, e5, s0_g6 D5, Option.bind_some, s0_g6 S5, Option.bind_some, rw_ck (s0_r D5 i1), Option.bind_some, a1, bnd_some, s0_g8 (fr_S0 C1.1 D5), Option.bind_some, s0_g8 (fr_S0 C1.1 S5), Option.bind_some, rw_ck (s0_r (fr_S0 C1.1 D5) i7), Option.bind_some, a2, bnd_some]
    have a3' : f_X6_copy_64 fuelN (some T') (some T) 0 g2 = _ := a3
    rw [a3', a4, bnd_some, s0_g11 D4, Option.bind_some, s0_g11 S4, Option.bind_some, rw_ck (s0_r D4 i26), Option.bind_some, a6, bnd_some, b1 12 g6 S6.1 o6D, Option.bind_some, putD_ok D6.1, Option.bind_some, getI_ok (show hpK (stD g6 T' 12 (hpD h T 12)) T = some (6, 0) from S6.1), Option.bind_some, hpI_stD, o6I, putI_ok (show hpK (stD g6 T' 12 (hpD h T 12)) T' = some (6, 0) from D6.1), Option.bind_some]
  · exact (F5.mono (fun a e => by omega)).trans (C6.1.trans (F7.mono (fun a e => by omega)))
  · exact fun r hr => fr_RN F7 (by have := isr_le hr; omega) (by have := isr_le hr; omega) (C6.2.1 r hr)
  · have t3 : ∀ j, j ≠ 12 → hpD (stI (stD g6 T' 12 (hpD h T 12)) T' 13 (hpI h T 13)) T' j = hpD h5 T' j := fun j hj => by
      show hpD (stD g6 T' 12 (hpD h T 12)) T' j = _
      rw [hpD_stD_ne (Or.inr hj), C6.2.2.2.2]
    refine ⟨?_, hpI_stI_self _ _ _ _, by rw [t3 3 (by omega)]; exact d5.1, by rw [t3 4 (by omega)]; exact d5.2.1, by rw [t3 5 (by omega)]; exact d5.2.2, ?_, fun r hr r4 i hi => ?_⟩
    · rw [hpI_stI_ne (Or.inr (by omega)), hpI_stD, C6.2.2.2.1]; exact i5
    · show hpD (stD g6 T' 12 (hpD h T 12)) T' 12 = _; exact hpD_stD_self _ _ _ _
    · rw [fr_RV F7 (by have := isr_le hr; omega) (by have := isr_le hr; omega), C6.2.2.1 r hr ?_ i hi, v5 r hr]
      rcases hr with e | e | e | e | e | e | e | e | e
      · exact Or.inr (Or.inr (Or.inl e))
      · exact absurd e r4
      · exact Or.inr (Or.inr (Or.inr (Or.inl e)))
      · exact Or.inr (Or.inr (Or.inr (Or.inr ⟨0, by omega, e⟩)))
      · exact Or.inr (Or.inr (Or.inr (Or.inr ⟨1, by omega, e⟩)))
      · exact Or.inr (Or.inr (Or.inr (Or.inr ⟨2, by omega, e⟩)))
      · exact Or.inr (Or.inr (Or.inr (Or.inr ⟨3, by omega, e⟩)))
      · exact Or.inr (Or.inl e)
      · exact Or.inl e
