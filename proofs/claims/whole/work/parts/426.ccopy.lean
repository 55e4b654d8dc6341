/-! ===== a run is copied by the class ===== -/
theorem cpy_row {α : Type} (f g : Nat → α) (n : Nat) : va_cpy f g 0 0 n = rowU n f g := by
  funext j
  unfold va_cpy rowU
  by_cases q : j < n
  · rw [if_pos ⟨Nat.zero_le _, by omega⟩, if_pos q]; congr 1; omega
  · rw [if_neg (fun z => q (by have := z.2; omega)), if_neg q]
theorem copI_ok {h : Hp} {a b N n : Nat} (ka : hpK h a = some (11, N)) (kb : hpK h b = some (11, N)) (hn : n ≤ N) (hN : N < 1000) : copI h (some a) 0 (some b) 0 (nI n) = some (rwI h b (rowU n (hpI h a) (hpI h b))) := by
  have cn : (nI n).toNatClampNeg = n := ni_cl (by omega)
  have c0 : (0 : Int32).toNatClampNeg = 0 := by decide
  have nn : ¬ nI n < 0 := by rw [li0, ni_lt (by omega) (by omega)]; omega
  unfold copI ab_cq
  simp only [Option.bind_some, ka, kb, cn, c0]
  rw [if_pos ⟨trivial, trivial, by decide, by decide, nn, by omega, by omega⟩]
  show some (cpI h a b 0 0 n) = _
  unfold cpI
  rw [cpy_row]
  rfl
theorem copD_ok {h : Hp} {a b N n : Nat} (ka : hpK h a = some (10, N)) (kb : hpK h b = some (10, N)) (hn : n ≤ N) (hN : N < 1000) : copD h (some a) 0 (some b) 0 (nI n) = some (rwD h b (rowU n (hpD h a) (hpD h b))) := by
  have cn : (nI n).toNatClampNeg = n := ni_cl (by omega)
  have c0 : (0 : Int32).toNatClampNeg = 0 := by decide
  have nn : ¬ nI n < 0 := by rw [li0, ni_lt (by omega) (by omega)]; omega
  unfold copD ab_cq
  simp only [Option.bind_some, ka, kb, cn, c0]
  rw [if_pos ⟨trivial, trivial, by decide, by decide, nn, by omega, by omega⟩]
  show some (cpD h a b 0 0 n) = _
  unfold cpD
  rw [cpy_row]
  rfl
theorem c_evcopy {h : Hp} {r r' k k' : Nat} (D : RB h r' k) (S : RB h r k') (dj : r + 41 ≤ r' ∨ r' + 41 ≤ r) :
    ∃ h', f_X0_copy (r' + 4) (some (r + 4)) h = some ((), h') ∧ Fr (fun a => r' + 4 ≤ a ∧ a ≤ r' + 11 ∧ a ≠ r' + 9) h h' ∧ hpI h' (r' + 4) 0 = hpI h (r + 4) 0 ∧ hpI h' (r' + 4) 6 = hpI h (r + 4) 6 ∧ (∀ o, 5 ≤ o → o ≤ 8 → ∀ j, j < 4 → hpI h' (r' + o) j = hpI h (r + o) j) ∧ ∀ j, j < 64 → hpI h' (r' + 10) j = hpI h (r + 10) j ∧ hpD h' (r' + 11) j = hpD h (r + 11) j := by
  have P : ∀ hh, Fr (fun a => r' + 4 ≤ a ∧ a ≤ r' + 11 ∧ a ≠ r' + 9) h hh → RB hh r' k ∧ RB hh r k' ∧ (∀ o, o < 41 → hpI hh (r + o) = hpI h (r + o) ∧ hpD hh (r + o) = hpD h (r + o)) := fun hh F => ⟨fr_RB F D, fr_RB F S, fun o ho => F.2.2.2 _ (by omega)⟩
  have cI : ∀ hh, Fr (fun a => r' + 4 ≤ a ∧ a ≤ r' + 11 ∧ a ≠ r' + 9) h hh → ∀ o, 5 ≤ o → o ≤ 8 → copI hh (some (r + o)) 0 (some (r' + o)) 0 4 = some (rwI hh (r' + o) (rowU 4 (hpI h (r + o)) (hpI hh (r' + o)))) := fun hh F o h1 h2 => by
    obtain ⟨q1, q2, q3⟩ := P hh F
    have := copI_ok (n := 4) (rb_kI q2 h1 h2) (rb_kI q1 h1 h2) (Nat.le_refl _) (by omega)
    rw [(q3 o (by omega)).1] at this
    exact this
  -- one after the other
  generalize e1 : stI h (r' + 4) 0 (hpI h (r + 4) 0) = h1
  have F1 : Fr (fun a => r' + 4 ≤ a ∧ a ≤ r' + 11 ∧ a ≠ r' + 9) h h1 := by rw [← e1]; exact fr_stI (Fr.refl _ h) (by omega)
  have v1 : hpI h1 (r' + 4) 0 = hpI h (r + 4) 0 := by rw [← e1]; exact hpI_stI_self _ _ _ _
  have c5 := cI h1 F1 5 (by omega) (by omega)
  generalize e2 : rwI h1 (r' + 5) (rowU 4 (hpI h (r + 5)) (hpI h1 (r' + 5))) = h2 at c5
  have F2 : Fr (fun a => r' + 4 ≤ a ∧ a ≤ r' + 11 ∧ a ≠ r' + 9) h h2 := by rw [← e2]; exact fr_rwI F1 (by omega)
  have n2 : ∀ b, b ≠ r' + 5 → hpI h2 b = hpI h1 b := fun b hb => by rw [← e2]; exact hpI_rwI_ne hb
  have v2 : ∀ j, j < 4 → hpI h2 (r' + 5) j = hpI h (r + 5) j := fun j hj => by rw [← e2, hpI_rwI_self, rowU_lt hj]
  have c6 := cI h2 F2 6 (by omega) (by omega)
  generalize e3 : rwI h2 (r' + 6) (rowU 4 (hpI h (r + 6)) (hpI h2 (r' + 6))) = h3 at c6
  have F3 : Fr (fun a => r' + 4 ≤ a ∧ a ≤ r' + 11 ∧ a ≠ r' + 9) h h3 := by rw [← e3]; exact fr_rwI F2 (by omega)
  have n3 : ∀ b, b ≠ r' + 6 → hpI h3 b = hpI h2 b := fun b hb => by rw [← e3]; exact hpI_rwI_ne hb
  have v3 : ∀ j, j < 4 → hpI h3 (r' + 6) j = hpI h (r + 6) j := fun j hj => by rw [← e3, hpI_rwI_self, rowU_lt hj]
  have c7 := cI h3 F3 7 (by omega) (by omega)
  generalize e4 : rwI h3 (r' + 7) (rowU 4 (hpI h (r + 7)) (hpI h3 (r' + 7))) = h4 at c7
  have F4 : Fr (fun a => r' + 4 ≤ a ∧ a ≤ r' + 11 ∧ a ≠ r' + 9) h h4 := by rw [← e4]; exact fr_rwI F3 (by omega)
  have n4 : ∀ b, b ≠ r' + 7 → hpI h4 b = hpI h3 b := fun b hb => by rw [← e4]; exact hpI_rwI_ne hb
  have v4 : ∀ j, j < 4 → hpI h4 (r' + 7) j = hpI h (r + 7) j := fun j hj => by rw [← e4, hpI_rwI_self, rowU_lt hj]
  have c8 := cI h4 F4 8 (by omega) (by omega)
  generalize e5 : rwI h4 (r' + 8) (rowU 4 (hpI h (r + 8)) (hpI h4 (r' + 8))) = h5 at c8
  have F5 : Fr (fun a => r' + 4 ≤ a ∧ a ≤ r' + 11 ∧ a ≠ r' + 9) h h5 := by rw [← e5]; exact fr_rwI F4 (by omega)
  have n5 : ∀ b, b ≠ r' + 8 → hpI h5 b = hpI h4 b := fun b hb => by rw [← e5]; exact hpI_rwI_ne hb
  have v5 : ∀ j, j < 4 → hpI h5 (r' + 8) j = hpI h (r + 8) j := fun j hj => by rw [← e5, hpI_rwI_self, rowU_lt hj]
  generalize e6 : stI h5 (r' + 4) 6 (hpI h (r + 4) 6) = h6
  have F6 : Fr (fun a => r' + 4 ≤ a ∧ a ≤ r' + 11 ∧ a ≠ r' + 9) h h6 := by rw [← e6]; exact fr_stI F5 (by omega)
  have n6 : ∀ b, b ≠ r' + 4 → hpI h6 b = hpI h5 b := fun b hb => by rw [← e6]; exact hpI_stI_row hb
  have v6 : hpI h6 (r' + 4) 6 = hpI h (r + 4) 6 := by rw [← e6]; exact hpI_stI_self _ _ _ _
  have v60 : hpI h6 (r' + 4) 0 = hpI h (r + 4) 0 := by rw [← e6, hpI_stI_ne (Or.inr (by omega)), n5 _ (by omega), n4 _ (by omega), n3 _ (by omega), n2 _ (by omega)]; exact v1
  obtain ⟨B6, S6, o6⟩ := P h6 F6
  have c10 : copI h6 (some (r + 10)) 0 (some (r' + 10)) 0 64 = some (rwI h6 (r' + 10) (rowU 64 (hpI h (r + 10)) (hpI h6 (r' + 10)))) := by
    have := copI_ok (n := 64) (rb_k10 S6) (rb_k10 B6) (Nat.le_refl _) (by omega)
    rw [(o6 10 (by omega)).1] at this
    exact this
  generalize e7 : rwI h6 (r' + 10) (rowU 64 (hpI h (r + 10)) (hpI h6 (r' + 10))) = h7 at c10
  have F7 : Fr (fun a => r' + 4 ≤ a ∧ a ≤ r' + 11 ∧ a ≠ r' + 9) h h7 := by rw [← e7]; exact fr_rwI F6 (by omega)
  have n7 : ∀ b, b ≠ r' + 10 → hpI h7 b = hpI h6 b := fun b hb => by rw [← e7]; exact hpI_rwI_ne hb
  have v7 : ∀ j, j < 64 → hpI h7 (r' + 10) j = hpI h (r + 10) j := fun j hj => by rw [← e7, hpI_rwI_self, rowU_lt hj]
  obtain ⟨B7, S7, o7⟩ := P h7 F7
  have c11 : copD h7 (some (r + 11)) 0 (some (r' + 11)) 0 64 = some (rwD h7 (r' + 11) (rowU 64 (hpD h (r + 11)) (hpD h7 (r' + 11)))) := by
    have := copD_ok (n := 64) (rb_k11 S7) (rb_k11 B7) (Nat.le_refl _) (by omega)
    rw [(o7 11 (by omega)).2] at this
    exact this
  obtain ⟨B1, S1, o1⟩ := P h1 F1
  obtain ⟨B2, S2, o2⟩ := P h2 F2
  obtain ⟨B3, S3, o3⟩ := P h3 F3
  obtain ⟨B4, S4, o4⟩ := P h4 F4
  obtain ⟨B5, S5, o5⟩ := P h5 F5
  refine ⟨rwD h7 (r' + 11) (rowU 64 (hpD h (r + 11)) (hpD h7 (r' + 11))), ?_, fr_rwD F7 (by omega), ?_, ?_, fun o h1' h2' j hj => ?_, fun j hj => ⟨?_, ?_⟩⟩
  · unfold f_X0_copy
    rw [rb_ei S, Option.bind_some, putI_ok (rb_eK D), Option.bind_some, e1, rb_e1 S1, Option.bind_some, rb_e1 B1, Option.bind_some, c5, Option.bind_some, rb_e2 S2, Option.bind_some, rb_e2 B2, Option.bind_some, c6, Option.bind_some, rb_e3 S3, Option.bind_some, rb_e3 B3, Option.bind_some, c7, Option.bind_some, rb_e4 S4, Option.bind_some, rb_e4 B4, Option.bind_some, c8, Option.bind_some, rb_ei S5, Option.bind_some, (o5 4 (by omega)).1, putI_ok (rb_eK B5), Option.bind_some, e6, rb_e7 S6, Option.bind_some, rb_e7 B6, Option.bind_some, c10, Option.bind_some, rb_e8 S7, Option.bind_some, rb_e8 B7, Option.bind_some, c11, Option.bind_some]
  · rw [hpI_rwD, n7 _ (by omega)]; exact v60
  · rw [hpI_rwD, n7 _ (by omega)]; exact v6
  · rw [hpI_rwD, n7 _ (by omega), n6 _ (by omega)]
    rcases (by omega : o = 5 ∨ o = 6 ∨ o = 7 ∨ o = 8) with rfl | rfl | rfl | rfl
    · rw [n5 _ (by omega), n4 _ (by omega), n3 _ (by omega)]; exact v2 j hj
    · rw [n5 _ (by omega), n4 _ (by omega)]; exact v3 j hj
    · rw [n5 _ (by omega)]; exact v4 j hj
    · exact v5 j hj
  · rw [hpI_rwD]; exact v7 j hj
  · rw [hpD_rwD_self, rowU_lt hj]
