/-! ===== the reference: a step is taken ===== -/
theorem r_keepsStep {h : Hp} {m s l n ns N : Nat} {hf : UInt64} {z : Nat → UInt64} (X : SX h m l n ns N) (hs : s < 9) (nt : Nm (hpD h (m + 24) s)) (fh : HB hf) (hz : ∀ i, i < n → hpD h (m + 47) i = z i) (hc : ∀ i, i < n → Cv (z i)) (hw : hpI h m 60 = 0 ∨ hpI h m 60 = 1) :
    ∃ h', f_X9_keepsStep m (nI s) (nI l) (nI n) hf h = some ((), h') ∧ Fs h h' m s ∧ hpI h' (m + 22) s = 1 ∧ hpI h' (m + 36) s = hpI h (m + 15) s ∧ hpD h' (m + 37) s = hpD h (m + 24) s ∧ hpD h' (m + 38) s = hf ∧ hpI h' (m + 19) s = hpI h m 61 ∧
      (∀ i, i < n → hpD h' (m + 39) (6 * s + i) = hpD h (m + 45) i ∧ hpD h' (m + 40) (6 * s + i) = hpD h (m + 47) i ∧ hpD h' (m + 41) (6 * s + i) = hpD h (m + 50) i ∧ (∀ j, j < 4 → hpD h' (m + 43) (5 * (6 * s + i) + j) = hpD h (m + 50 + j) i) ∧ hpD h' (m + 43) (5 * (6 * s + i) + 4) = hpD h (m + 49) i ∧ hpD h' (m + 42) (6 * s + i) = fR h m l N (FP.dadd (hpD h (m + 24) s) hf) z i) ∧
      (∀ o, 14 ≤ o → o < 44 → o ≠ 22 → o ≠ 36 → o ≠ 19 → hpI h' (m + o) = hpI h (m + o)) ∧ (∀ o, 14 ≤ o → o < 37 → hpD h' (m + o) = hpD h (m + o)) := by
  obtain ⟨H, L, -⟩ := id X
  have hn := L.2.2.2.1
  unfold f_X9_keepsStep
  generalize e1 : stI h (m + 22) s 1 = h1
  have R1 : RO h1 m := by rw [← e1]; exact H
  rw [ro_g23 H, Option.bind_some, ro_s23 H hs, Option.bind_some, nar1, e1]
  generalize e2 : stI h1 (m + 36) s (hpI h1 (m + 15) s) = h2
  have R2 : RO h2 m := by rw [← e2]; exact R1
  rw [ro_g37 R1, Option.bind_some, ro_g16 R1, Option.bind_some, ro_a16 R1 hs, Option.bind_some, ro_s37 R1 hs, Option.bind_some, e2]
  generalize e3 : stD h2 (m + 37) s (hpD h2 (m + 24) s) = h3
  have R3 : RO h3 m := by rw [← e3]; exact R2
  rw [ro_g38 R2, Option.bind_some, ro_g25 R2, Option.bind_some, ro_a25 R2 hs, Option.bind_some, ro_s38 R2 hs, Option.bind_some, e3]
  generalize e4 : stD h3 (m + 38) s hf = h4
  have R4 : RO h4 m := by rw [← e4]; exact R3
  rw [ro_g39 R3, Option.bind_some, ro_s39 R3 hs, Option.bind_some, e4]
  generalize e5 : stI h4 (m + 19) s (hpI h4 m 61) = h5
  have R5 : RO h5 m := by rw [← e5]; exact R4
  rw [ro_g20 R4, Option.bind_some, ro_gi R4, Option.bind_some, ro_s20 R4 hs, Option.bind_some, e5]
  have F1 : Fs h h1 m s := by rw [← e1]; exact fs_stI _ (by omega)
  have F2 : Fs h1 h2 m s := by rw [← e2]; exact fs_stI _ (by omega)
  have F3 : Fs h2 h3 m s := by rw [← e3]; exact fs_stD _ (by omega)
  have F4 : Fs h3 h4 m s := by rw [← e4]; exact fs_stD _ (by omega)
  have F5 : Fs h4 h5 m s := by rw [← e5]; exact fs_stI _ (by omega)
  have FF := (((F1.trans F2).trans F3).trans F4).trans F5
  have i1 : ∀ a, a ≠ m + 22 → hpI h1 a = hpI h a := fun a ha => by rw [← e1]; exact hpI_stI_row ha
  have i2 : ∀ a, a ≠ m + 36 → hpI h2 a = hpI h1 a := fun a ha => by rw [← e2]; exact hpI_stI_row ha
  have i3 : hpI h4 = hpI h2 := by rw [← e4, hpI_stD, ← e3, hpI_stD]
  have i5 : ∀ a, a ≠ m + 19 → hpI h5 a = hpI h4 a := fun a ha => by rw [← e5]; exact hpI_stI_row ha
  have d2 : hpD h2 = hpD h := by rw [← e2, hpD_stI, ← e1, hpD_stI]
  have d3 : ∀ a, a ≠ m + 37 → hpD h3 a = hpD h2 a := fun a ha => by rw [← e3]; exact hpD_stD_row ha
  have d4 : ∀ a, a ≠ m + 38 → hpD h4 a = hpD h3 a := fun a ha => by rw [← e4]; exact hpD_stD_row ha
  have d5 : hpD h5 = hpD h4 := by rw [← e5, hpD_stI]
  have dd : ∀ a, a ≠ m + 37 → a ≠ m + 38 → hpD h5 a = hpD h a := fun a h1 h2 => by rw [d5, d4 a h2, d3 a h1, d2]
  obtain ⟨h6, e6, K1, K2, K3, K4⟩ := r_keep_52 (l := l) (hf := hf) R5 hs hn
  rw [e6]
  dsimp only
  have L6 := FF.2.1.trans K1.2.1
  have R6 := le_RO L6 H
  have t6 : hpD h6 (m + 24) s = hpD h (m + 24) s := by rw [K3 _ (by omega) (by omega) (by omega) (by omega), dd _ (by omega) (by omega)]
  have w6 : hpI h6 m = hpI h m := by rw [K2, i5 _ (by omega), i3, i2 _ (by omega), i1 _ (by omega)]
  rw [ro_g25 R6, Option.bind_some, ro_a25 R6 hs, Option.bind_some, t6, fop_ok (add_nm2 nt fh.fn), Option.bind_some, ro_g49 R6, Option.bind_some, ro_g50 R6, Option.bind_some, ro_ck R6, Option.bind_some]
  obtain ⟨h7, e7, S7, k7, o7, v7, b7, u7⟩ := st_rates (h0 := h6) (t := FP.dadd (hpD h (m + 24) s) hf) (y := z) (st := m + 47) (out := m + 48) (le_SX L6 X) (Scr.refl h6 m) (by omega) (by omega) (add_nm2 nt fh.fn) (fun i hi => by rw [K3 _ (by omega) (by omega) (by omega) (by omega), dd _ (by omega) (by omega)]; exact hz i hi) hc (by rw [w6]; exact hw)
  rw [e7, bnd_some]
  have R7 := scr_RO S7 R6
  obtain ⟨h8, e8, Q1, Q2, Q3, Q4⟩ := r_keep_228 R7 hs hn
  rw [e8]
  have dK : ∀ a, a < m + 44 → a ≠ m + 42 → hpD h8 a = hpD h6 a := fun a h1 h2 => by rw [Q3 a h2]; exact S7.2.2.2.2.2 a (by omega)
  have iK : ∀ a, a ≠ m → hpI h8 a = hpI h5 a := fun a ha => by rw [Q2, S7.2.2.2.1 a ha, K2]
  refine ⟨h8, rfl, ((FF.trans K1).trans (S7.fs s)).trans Q1, ?_, ?_, ?_, ?_, ?_, fun i hi => ?_, fun o h1 h2 h3 h4 h5 => ?_, fun o h1 h2 => ?_⟩
  · rw [iK _ (by omega), i5 _ (by omega), i3, i2 _ (by omega), ← e1, hpI_stI_self]
  · rw [iK _ (by omega), i5 _ (by omega), i3, ← e2, hpI_stI_self, i1 _ (by omega)]
  · rw [dK _ (by omega) (by omega), K3 _ (by omega) (by omega) (by omega) (by omega), d5, d4 _ (by omega), ← e3, hpD_stD_self, d2]
  · rw [dK _ (by omega) (by omega), K3 _ (by omega) (by omega) (by omega) (by omega), d5, ← e4, hpD_stD_self]
  · rw [iK _ (by omega), ← e5, hpI_stI_self, i3, i2 _ (by omega), i1 _ (by omega)]
  · obtain ⟨q1, q2, q3, q4, q5⟩ := K4 i hi
    refine ⟨?_, ?_, ?_, fun j hj => ?_, ?_, ?_⟩
    · rw [dK _ (by omega) (by omega), q1, dd _ (by omega) (by omega)]
    · rw [dK _ (by omega) (by omega), q2, dd _ (by omega) (by omega)]
    · rw [dK _ (by omega) (by omega), q3, dd _ (by omega) (by omega)]
    · rw [dK _ (by omega) (by omega), q4 j hj, dd _ (by omega) (by omega)]
    · rw [dK _ (by omega) (by omega), q5, dd _ (by omega) (by omega)]
    · rw [Q4 i hi, k7 i hi, le_fR L6]
  · rw [iK _ (by omega), i5 _ (by omega), i3, i2 _ (by omega), i1 _ (by omega)]
  · rw [dK _ (by omega) (by omega), K3 _ (by omega) (by omega) (by omega) (by omega), dd _ (by omega) (by omega)]
/-- the record once the step is taken -/
def tkS (A : RecT) (F : FT) (nar : Int32) (n M no : Nat) (hf off : UInt64) (isCut : Bool) (endv : UInt64) : RecT :=
  (fun o => match o with
    | 22 => fun _ => 1
    | 36 => A.1 15
    | 19 => fun _ => nI (gS F nar n M (A.2 24 0) hf (A.2 29))
    | 17 => fun _ => A.1 17 0 + 1
    | 18 => fun _ => A.1 18 0 + nI no
    | o => A.1 o,
   fun o => match o with
    | 24 => fun _ => if isCut = true then endv else FP.dadd (A.2 24 0) hf
    | 25 => fun _ => if isCut = true then A.2 25 0 else if M = 4 ∧ no = 0 then lgS hf off else hf
    | 28 => fun _ => off
    | 29 => zS F nar n M (A.2 24 0) hf (A.2 29)
    | 37 => fun _ => A.2 24 0
    | 38 => fun _ => hf
    | 39 => A.2 29
    | 40 => zS F nar n M (A.2 24 0) hf (A.2 29)
    | 41 => F (A.2 24 0) (A.2 29)
    | 42 => F (FP.dadd (A.2 24 0) hf) (zS F nar n M (A.2 24 0) hf (A.2 29))
    | 100 => kS F nar n M (A.2 24 0) hf (A.2 29) 0
    | 101 => kS F nar n M (A.2 24 0) hf (A.2 29) 1
    | 102 => kS F nar n M (A.2 24 0) hf (A.2 29) 2
    | 103 => kS F nar n M (A.2 24 0) hf (A.2 29) 3
    | 104 => eP F nar (A.2 24 0) hf (A.2 29)
    | o => A.2 o)
theorem r_goes_317 {h0 : Hp} {m s n : Nat} {no : Int32} (H : RO h0 m) (hs : s < 9) (hn : n ≤ 6) :
    ∃ h', f_X9_goes_317 fuelN (some m) (nI s) (nI n) no 0 h0 = (fun h => bnd (f_X9_looksAtEvents m (nI s) h) fun _ h3 => some (no, h3)) h' ∧ Fs h0 h' m s ∧ hpI h' = hpI h0 ∧ (∀ a, a ≠ m + 29 → hpD h' a = hpD h0 a) ∧ ∀ i, i < n → hpD h' (m + 29) (6 * s + i) = hpD h0 (m + 40) (6 * s + i) := by
  refine loop_rel (fun fuel i hh => f_X9_goes_317 fuel (some m) (nI s) (nI n) no i hh) (fun i h => Fs h0 h m s ∧ hpI h = hpI h0 ∧ (∀ a, a ≠ m + 29 → hpD h a = hpD h0 a) ∧ ∀ i', i' < i → hpD h (m + 29) (6 * s + i') = hpD h0 (m + 40) (6 * s + i')) (res := fun h => bnd (f_X9_looksAtEvents m (nI s) h) fun _ h3 => some (no, h3)) (by omega) ?_ ?_ h0 ⟨Fs.refl h0 m s, rfl, fun _ _ => rfl, fun i' hi => by omega⟩
  · rintro fuel i h hi ⟨p1, p2, p3, p4⟩
    have H0 : RO h m := le_RO p1.2.1 H
    simp only [f_X9_goes_317, if_neg (show ¬ nI n ≤ nI i by rw [ni_le (by omega) (by omega)]; omega), li6, ni_mul, ni_add, li1]
    rw [ro_g30 H0, Option.bind_some, ro_g41 H0, Option.bind_some, ro_a41 H0 (by omega), Option.bind_some, ro_s30 H0 (by omega), Option.bind_some]
    refine ⟨_, rfl, p1.trans (fs_stD _ (by omega)), p2, fun a ha => by rw [hpD_stD_row ha, p3 a ha], fun i' hi' => ?_⟩
    by_cases e : i' = i
    · subst e
      rw [hpD_stD_self, p3 _ (by omega)]
    · rw [hpD_stD_ne (Or.inr (by omega)), p4 i' (by omega)]
  · rintro fuel h ⟨p1, -⟩
    have H0 : RO h m := le_RO p1.2.1 H
    simp only [f_X9_goes_317, if_pos (show nI n ≤ nI n from (ni_le (by omega) (by omega)).mpr (Nat.le_refl _)), ro_ck H0, Option.bind_some]
