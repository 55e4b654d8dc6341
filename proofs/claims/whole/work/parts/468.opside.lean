/-! ===== side ===== -/
theorem stI_stI2 {h : Hp} {a k : Nat} {u v : Int32} : stI (stI h a k u) a k v = stI h a k v := by
  rw [stI_rw h a k u, rwI_stI, stI_rw h a k v]
  congr 1
  funext j
  unfold up1
  by_cases z : j = k
  · rw [if_pos z, if_pos z]
  · rw [if_neg z, if_neg z, if_neg z]
theorem abmax_ni {a b : Nat} (ha : a < 1000) (hb : b < 1000) : ab_max (nI a) (nI b) = nI (max a b) := by
  unfold ab_max
  by_cases z : a < b
  · rw [if_pos (by rw [ni_lt (by omega) (by omega)]; exact z), Nat.max_eq_right (by omega)]
  · rw [if_neg (by rw [ni_lt (by omega) (by omega)]; exact z), Nat.max_eq_left (by omega)]
theorem c_putloop {g : Hp} {L K sg n N : Nat} (H : LO g L K sg n) (e1 : hpI g L 1 = nI n) (hn : n ≤ 6) (hN : N ≤ 48) (sd : ∀ j, j < n → hpI g (L + 9) j = -1 ∨ ∃ q, q < N ∧ hpI g (L + 9) j = nI q) : ∀ k j E f, j + k = n → k < f → E ≤ N → (∀ i, i < j → ∀ q, q < N → hpI g (L + 9) i = nI q → q < E) → ∃ E', f_X1_putSide_14 f (some L) (nI j) (stI g L 12 (nI E)) = some ((), stI g L 12 (nI E')) ∧ E' ≤ N ∧ ∀ i, i < n → ∀ q, q < N → hpI g (L + 9) i = nI q → q < E' := by
  have K0 : ∀ E, hpK (stI g L 12 (nI E)) L = some (1, 0) := fun E => H.1
  have r11 : ∀ E, hpR (stI g L 12 (nI E)) L 11 = some (L + 9) := fun E => H.2.2.2.2.2.2.2.2.1
  have k9 : ∀ E, hpK (stI g L 12 (nI E)) (L + 9) = some (11, n) := fun E => H.2.2.2.2.2.2.2.2.2.2.2.2.2.2.2.2
  intro k
  induction k with
  | zero =>
    intro j E f e hf hE cov
    cases f with
    | zero => omega
    | succ f =>
      refine ⟨E, ?_, hE, fun i hi => cov i (by omega)⟩
      unfold f_X1_putSide_14
      rw [getI_ok (K0 E), Option.bind_some, hpI_stI_ne (Or.inr (by omega)), e1, if_pos (by rw [ni_le (by omega) (by omega)]; omega)]
  | succ k ih =>
    intro j E f e hf hE cov
    cases f with
    | zero => omega
    | succ f =>
      have st : ∃ s, s ≤ N ∧ hpI g (L + 9) j + 1 = nI s ∧ ∀ q, q < N → hpI g (L + 9) j = nI q → q < s := by
        rcases sd j (by omega) with z | ⟨q, z1, z2⟩
        · refine ⟨0, by omega, by rw [z]; rfl, fun q hq z2 => ?_⟩
          rw [z] at z2; exact absurd z2.symm (ni_neg1 (by omega))
        · refine ⟨q + 1, by omega, by rw [z2, li1, ni_add], fun q' hq z3 => ?_⟩
          rw [z2, ni_eq (by omega) (by omega)] at z3; omega
      obtain ⟨s, s1, s2, s3⟩ := st
      have hmx := Nat.max_le.mpr ⟨hE, s1⟩
      have h1 := Nat.le_max_left E s
      have h2 := Nat.le_max_right E s
      obtain ⟨E', u1, u2, u3⟩ := ih (j + 1) (max E s) f (by omega) (by omega) hmx (fun i hi q hq z => by
        by_cases w : i = j
        · rw [w] at z; have := s3 q hq z; omega
        · have := cov i (by omega) q hq z; omega)
      refine ⟨E', ?_, u2, u3⟩
      unfold f_X1_putSide_14
      rw [getI_ok (K0 E), Option.bind_some, hpI_stI_ne (Or.inr (by omega)), e1, if_neg (by rw [ni_le (by omega) (by omega)]; omega), getI_ok (K0 E), Option.bind_some, hpI_stI_self, getR_ok (K0 E), Option.bind_some, r11, aldI_ok (k9 E) (ni_in (show j < n by omega) (by omega)), ni_cl (by omega), Option.bind_some, hpI_stI_ne (Or.inl (by omega)), s2, abmax_ni (by omega) (by omega), putI_ok (K0 E), Option.bind_some, stI_stI2, show nI j + 1 = nI (j + 1) by rw [li1, ni_add]]
      exact u1
theorem c_putSide {h : Hp} {L K sg n N i q : Nat} (H : LO h L K sg n) (e1 : hpI h L 1 = nI n) (hn : n ≤ 6) (hN : N ≤ 48) (hi : i < n) (hq : q < N) (sd : ∀ j, j < n → hpI h (L + 9) j = -1 ∨ ∃ q, q < N ∧ hpI h (L + 9) j = nI q) : ∃ E, f_X1_putSide L (nI i) (nI q) h = some ((), stI (stI h (L + 9) i (nI q)) L 12 (nI E)) ∧ E ≤ N ∧ ∀ j, j < n → ∀ q', q' < N → hpI (stI h (L + 9) i (nI q)) (L + 9) j = nI q' → q' < E := by
  have H1 : LO (stI h (L + 9) i (nI q)) L K sg n := H
  have e1' : hpI (stI h (L + 9) i (nI q)) L 1 = nI n := by rw [hpI_stI_ne (Or.inl (by omega))]; exact e1
  have sd' : ∀ j, j < n → hpI (stI h (L + 9) i (nI q)) (L + 9) j = -1 ∨ ∃ q', q' < N ∧ hpI (stI h (L + 9) i (nI q)) (L + 9) j = nI q' := fun j hj => by
    rw [hpI_stI, if_pos rfl]
    by_cases z : j = i
    · rw [if_pos z]; exact Or.inr ⟨q, hq, rfl⟩
    · rw [if_neg z]; exact sd j hj
  obtain ⟨E, u1, u2, u3⟩ := c_putloop H1 e1' hn hN sd' n 0 0 fuelN (by omega) (by unfold fuelN; omega) (by omega) (fun i hi => by omega)
  refine ⟨E, ?_, u2, u3⟩
  unfold f_X1_putSide
  have r11 : getR h (some L) 1 11 = some (some (L + 9)) := by rw [getR_ok H.1, H.2.2.2.2.2.2.2.2.1]
  have k9 : hpK h (L + 9) = some (11, n) := H.2.2.2.2.2.2.2.2.2.2.2.2.2.2.2.2
  rw [r11, Option.bind_some, astI_ok k9 (ni_in hi (by omega)), ni_cl (by omega), Option.bind_some, putI_ok H1.1, Option.bind_some]
  exact u1
theorem lw_inj {b : Nat} {h : Hp} {c s0 nl ns nr : Nat} {Lw nv nn Ob : Nat → Nat} {ex : Nat → Bool} {rl : Nat → Nat} {Rc : Nat → RecT} {τ : Nat → Nat} (I : IG b h c s0 nl ns nr Lw nv nn Ob ex rl Rc τ) {l l' : Nat} (hl : l < nl) (hl' : l' < nl) (e : Lw l = Lw l') : l = l' := by
  have b1 := I.2.2.2.2.2.2.2.2.2.2.1 l hl
  have b2 := I.2.2.2.2.2.2.2.2.2.2.1 l' hl'
  have t1 := b1.2.2 (Lw l) (by omega) (by omega)
  have t2 := b2.2.2 (Lw l) (by omega) (by omega)
  omega
theorem c_sideloop {b : Nat} {h : Hp} {c nl ns nr : Nat} {Lw nv nn Ob : Nat → Nat} {ex : Nat → Bool} {rl : Nat → Nat} {Rc : Nat → RecT} {τ : Nat → Nat} (I : IG b h c 9 nl ns nr Lw nv nn Ob ex rl Rc τ) {l : Nat} (hl : l < nl) (i q : Int32) : ∀ k r f, r + k = nr → k < f → ((∃ r', r ≤ r' ∧ r' < nr ∧ rl r' = l) → f_X8_side_35 f (some c) i q (some (Lw l)) (nI r) h = some (-2, h)) ∧ ((∀ r', r ≤ r' → r' < nr → rl r' ≠ l) → f_X8_side_35 f (some c) i q (some (Lw l)) (nI r) h = bnd (f_X1_putSide (Lw l) i q h) fun _ h4 => some (1, h4)) := by
  have X := I.1.1
  obtain ⟨c1, c2, c3, c4, c5, c6, c7, c8, c9⟩ := I.2.1
  have g6 : getR h (some c) 8 6 = some (some (c + 6)) := by rw [getR_ok X.1, X.2.2.2.2.2.1]
  have K := (I.2.2.1 l hl).2.1.1
  intro k
  induction k with
  | zero =>
    intro r f e hf
    cases f with
    | zero => omega
    | succ f =>
      refine ⟨fun ⟨r', h1, h2, h3⟩ => by omega, fun _ => ?_⟩
      unfold f_X8_side_35
      rw [getI_ok X.1, Option.bind_some, c6, if_pos (by rw [ni_le (by omega) (by omega)]; omega), ck_ok K, Option.bind_some]
  | succ k ih =>
    intro r f e hf
    cases f with
    | zero => omega
    | succ f =>
      have i8 := I.2.2.2.2.2.2.2.1 r (by omega)
      have he := i8.1.mpr (by omega)
      have hr := i8.2.1 (by omega)
      obtain ⟨hrl, s1, s2, s3, s4, s5, s6⟩ := I.2.2.2.2.2.2.1 r (by omega) he (by omega)
      have B := (I.2.2.2.2.2.1 r (by omega) he).1
      obtain ⟨ih1, ih2⟩ := ih (r + 1) f (by omega) (by omega)
      have one : f_X8_side_35 (f + 1) (some c) i q (some (Lw l)) (nI r) h = if rl r = l then some (-2, h) else f_X8_side_35 f (some c) i q (some (Lw l)) (nI (r + 1)) h := by
        conv => lhs; unfold f_X8_side_35
        unfold f_X8_side_71
        rw [getI_ok X.1, Option.bind_some, c6, if_neg (by rw [ni_le (by omega) (by omega)]; omega), g6, Option.bind_some, aldR_ok (xo_k6 X) (ni_in (show r < 4 by omega) (by omega)), ni_cl (by omega), Option.bind_some, hr, if_neg (by simp), getR_ok B.1, Option.bind_some, s6, show nI r + 1 = nI (r + 1) by rw [li1, ni_add]]
        by_cases z : rl r = l
        · rw [if_pos z, if_neg (fun w => w (by rw [z]))]
        · rw [if_neg z, if_pos (fun w => z (lw_inj I hrl hl (Option.some.inj w)))]
      rw [one]
      refine ⟨fun ⟨r', h1, h2, h3⟩ => ?_, fun no => ?_⟩
      · by_cases z : rl r = l
        · rw [if_pos z]
        · rw [if_neg z]
          refine ih1 ⟨r', ?_, h2, h3⟩
          by_cases w : r' = r
          · rw [w] at h3; exact absurd h3 z
          · omega
      · rw [if_neg (no r (by omega) (by omega))]
        exact ih2 (fun r' h1 h2 => no r' (by omega) h2)
theorem r_sideloop {g : Hp} {m nr l : Nat} {rl : Nat → Nat} {i q : Nat} (H : RO g m) (hl : l < 8) (hi : i < 6) (e45 : hpI g m 45 = nI nr) (hnr : nr ≤ 4) (e14 : ∀ r, r < nr → hpI g (m + 14) r = nI (rl r) ∧ rl r < 8) : ∀ k r f, r + k = nr → k < f → ((∃ r', r ≤ r' ∧ r' < nr ∧ rl r' = l) → f_X9_side_51 f (some m) (nI l) (nI i) (nI q) (nI r) g = some (-2, g)) ∧ ((∀ r', r ≤ r' → r' < nr → rl r' ≠ l) → f_X9_side_51 f (some m) (nI l) (nI i) (nI q) (nI r) g = some (1, stI g (m + 4) (6 * l + i) (nI q))) := by
  intro k
  induction k with
  | zero =>
    intro r f e hf
    cases f with
    | zero => omega
    | succ f =>
      refine ⟨fun ⟨r', h1, h2, h3⟩ => by omega, fun _ => ?_⟩
      unfold f_X9_side_51
      rw [getI_ok (ro_K H), Option.bind_some, e45, if_pos (by rw [ni_le (by omega) (by omega)]; omega), ro_g3 H, Option.bind_some, show (6 : Int32) * nI l + nI i = nI (6 * l + i) by rw [li6, ni_mul, ni_add], ro_s3 H (by omega), Option.bind_some]
  | succ k ih =>
    intro r f e hf
    cases f with
    | zero => omega
    | succ f =>
      obtain ⟨ih1, ih2⟩ := ih (r + 1) f (by omega) (by omega)
      obtain ⟨er, hr8⟩ := e14 r (by omega)
      have one : f_X9_side_51 (f + 1) (some m) (nI l) (nI i) (nI q) (nI r) g = if rl r = l then some (-2, g) else f_X9_side_51 f (some m) (nI l) (nI i) (nI q) (nI (r + 1)) g := by
        conv => lhs; unfold f_X9_side_51
        rw [getI_ok (ro_K H), Option.bind_some, e45, if_neg (by rw [ni_le (by omega) (by omega)]; omega), ro_g15 H, Option.bind_some, ro_a15 H (by omega), Option.bind_some, er, show nI r + 1 = nI (r + 1) by rw [li1, ni_add]]
        by_cases z : rl r = l
        · rw [if_pos z, if_neg (fun w => w (by rw [z]))]
        · rw [if_neg z, if_pos (by rw [ni_eq (by omega) (by omega)]; exact z)]
      rw [one]
      refine ⟨fun ⟨r', h1, h2, h3⟩ => ?_, fun no => ?_⟩
      · by_cases z : rl r = l
        · rw [if_pos z]
        · rw [if_neg z]
          refine ih1 ⟨r', ?_, h2, h3⟩
          by_cases w : r' = r
          · rw [w] at h3; exact absurd h3 z
          · omega
      · rw [if_neg (no r (by omega) (by omega))]
        exact ih2 (fun r' h1 h2 => no r' (by omega) h2)
