/-! ===== new objects ===== -/
def Ux (X : Nat → Prop) (q : Nat) (h h' : Hp) : Prop := ∀ a, a < q → hpK h' a = hpK h a ∧ hpI h' a = hpI h a ∧ hpD h' a = hpD h a ∧ (¬ X a → hpR h' a = hpR h a)
theorem Ux.refl (X : Nat → Prop) (q : Nat) (h : Hp) : Ux X q h h := fun _ _ => ⟨rfl, rfl, rfl, fun _ => rfl⟩
theorem Ux.trans {X : Nat → Prop} {q q' : Nat} {h h1 h2 : Hp} (a : Ux X q h h1) (b : Ux X q' h1 h2) (hq : q ≤ q') : Ux X q h h2 := fun x hx => by
  obtain ⟨a1, a2, a3, a4⟩ := a x hx
  obtain ⟨b1, b2, b3, b4⟩ := b x (by omega)
  exact ⟨b1.trans a1, b2.trans a2, b3.trans a3, fun n => (b4 n).trans (a4 n)⟩
theorem Ux.mono {X Y : Nat → Prop} {q : Nat} {h h' : Hp} (a : Ux X q h h') (hXY : ∀ x, x < q → X x → Y x) : Ux Y q h h' := fun x hx => by
  obtain ⟨a1, a2, a3, a4⟩ := a x hx
  exact ⟨a1, a2, a3, fun n => a4 (fun z => n (hXY x hx z))⟩
theorem ux_alo {X : Nat → Prop} {h : Hp} {kd : Nat × Nat} : Ux X (hpS h) h (alo h kd) := fun a ha => by
  have n : a ≠ hpS h := by omega
  refine ⟨by rw [hpK_alo, if_neg n], ?_, ?_, fun _ => ?_⟩
  · funext j; rw [hpI_alo, if_neg n]
  · funext j; rw [hpD_alo, if_neg n]
  · funext j; rw [hpR_alo, if_neg n]
theorem ux_stR {X : Nat → Prop} {q : Nat} {h : Hp} {b j : Nat} {v : Option Nat} (hb : X b) : Ux X q h (stR h b j v) := fun a _ => ⟨rfl, rfl, rfl, fun n => by funext i; rw [hpR_stR, if_neg (fun e => n (by rw [e]; exact hb))]⟩
theorem hpS_stR' (h : Hp) (a k : Nat) (v : Option Nat) : hpS (stR h a k v) = hpS h := rfl
theorem newa_ok {h : Hp} {t N : Nat} (hN : N ≤ 1000) : newa h t (nI N) = some (some (hpS h), alo h (t, N)) := by
  unfold newa
  rw [if_neg, ni_cl (by omega)]
  rintro (z | z)
  · rw [li0, ni_lt (by omega) (by omega)] at z; omega
  · rw [ni_cl (by omega)] at z; omega
/-- all numbers of a stretch are zero -/
def Zr (q e : Nat) (h : Hp) : Prop := ∀ a, q ≤ a → a < e → (∀ j, hpI h a j = 0) ∧ ∀ j, hpD h a j = 0
theorem zr_alo {q : Nat} {h : Hp} {kd : Nat × Nat} (z : Zr q (hpS h) h) : Zr q (hpS (alo h kd)) (alo h kd) := fun a h1 h2 => by
  rw [hpS_alo] at h2
  by_cases e : a = hpS h
  · exact ⟨fun j => by rw [hpI_alo, if_pos e], fun j => by rw [hpD_alo, if_pos e]⟩
  · exact ⟨fun j => by rw [hpI_alo, if_neg e]; exact (z a h1 (by omega)).1 j, fun j => by rw [hpD_alo, if_neg e]; exact (z a h1 (by omega)).2 j⟩
theorem zr_stR {q e : Nat} {h : Hp} {b j : Nat} {v : Option Nat} (z : Zr q e h) : Zr q e (stR h b j v) := z
theorem rw_ux {X : Nat → Prop} {q a N : Nat} {h h' : Hp} (U : Ux X q h h') (ha : a + 3 ≤ q) (hX : ¬ X a) (r : RW h a N) : RW h' a N := by
  have u0 := U a (by omega)
  have u1 := U (a + 1) (by omega)
  have u2 := U (a + 2) (by omega)
  unfold RW
  rw [u0.1, u0.2.2.2 hX, u1.1, u2.1]
  exact r
theorem row_new (h : Hp) {N : Nat} (hN : N ≤ 1000) : ∃ h', f_X3_init (hpS h) (nI N) (alo h (3, 0)) = some ((), h') ∧ hpS h' = hpS h + 3 ∧ RW h' (hpS h) N ∧ Ux (fun _ => False) (hpS h) h h' ∧ (Zr (hpS h) (hpS h) h → Zr (hpS h) (hpS h + 3) h') ∧ ∀ q, Zr q (hpS h) h → Zr q (hpS h + 3) h' := by
  have k0 : hpK (alo (alo h (3, 0)) (10, N)) (hpS h) = some (3, 0) := by rw [hpK_alo, hpS_alo, if_neg (by omega), hpK_alo, if_pos rfl]
  refine ⟨stR (alo (stR (alo (alo h (3, 0)) (10, N)) (hpS h) 0 (some (hpS h + 1))) (12, N)) (hpS h) 1 (some (hpS h + 1 + 1)), ?_, ?_, ?_, ?_, ?_, ?_⟩
  · unfold f_X3_init
    rw [newa_ok hN, bnd_some, putR_ok k0, Option.bind_some, newa_ok hN, bnd_some, putR_ok (by rw [hpK_alo]; show (if hpS h = hpS h + 1 + 1 then _ else _) = _; rw [if_neg (by omega)]; exact k0), Option.bind_some]
    rfl
  · show hpS h + 1 + 1 + 1 = _; omega
  · have s2 : hpS (stR (alo (alo h (3, 0)) (10, N)) (hpS h) 0 (some (hpS h + 1))) = hpS h + 2 := rfl
    refine ⟨?_, ?_, ?_, ?_, ?_⟩
    · show hpK (alo (stR (alo (alo h (3, 0)) (10, N)) (hpS h) 0 (some (hpS h + 1))) (12, N)) (hpS h) = _
      rw [hpK_alo, s2, if_neg (by omega)]; exact k0
    · rw [hpR_stR, if_pos rfl, if_neg (by decide), hpR_alo, s2, if_neg (by omega), hpR_stR, if_pos rfl, if_pos rfl]
    · rw [hpR_stR, if_pos rfl, if_pos rfl]
    · show hpK (alo (stR (alo (alo h (3, 0)) (10, N)) (hpS h) 0 (some (hpS h + 1))) (12, N)) (hpS h + 1) = _
      rw [hpK_alo, s2, if_neg (by omega)]
      show hpK (alo (alo h (3, 0)) (10, N)) (hpS h + 1) = _
      rw [hpK_alo, hpS_alo, if_pos rfl]
    · show hpK (alo (stR (alo (alo h (3, 0)) (10, N)) (hpS h) 0 (some (hpS h + 1))) (12, N)) (hpS h + 2) = _
      rw [hpK_alo, s2, if_pos rfl]
  · intro a ha
    have n0 : a ≠ hpS h := by omega
    have n1 : a ≠ hpS h + 1 := by omega
    have n2 : a ≠ hpS h + 1 + 1 := by omega
    refine ⟨?_, ?_, ?_, fun _ => ?_⟩
    · show hpK (alo (stR (alo (alo h (3, 0)) (10, N)) (hpS h) 0 (some (hpS h + 1))) (12, N)) a = _
      rw [hpK_alo]
      show (if a = hpS h + 1 + 1 then _ else hpK (alo (alo h (3, 0)) (10, N)) a) = _
      rw [if_neg n2, hpK_alo, hpS_alo, if_neg n1, hpK_alo, if_neg n0]
    · funext j
      show hpI (alo (stR (alo (alo h (3, 0)) (10, N)) (hpS h) 0 (some (hpS h + 1))) (12, N)) a j = _
      rw [hpI_alo]
      show (if a = hpS h + 1 + 1 then _ else hpI (alo (alo h (3, 0)) (10, N)) a j) = _
      rw [if_neg n2, hpI_alo, hpS_alo, if_neg n1, hpI_alo, if_neg n0]
    · funext j
      show hpD (alo (stR (alo (alo h (3, 0)) (10, N)) (hpS h) 0 (some (hpS h + 1))) (12, N)) a j = _
      rw [hpD_alo]
      show (if a = hpS h + 1 + 1 then _ else hpD (alo (alo h (3, 0)) (10, N)) a j) = _
      rw [if_neg n2, hpD_alo, hpS_alo, if_neg n1, hpD_alo, if_neg n0]
    · funext j
      rw [hpR_stR, if_neg n0, hpR_alo]
      show (if a = hpS h + 1 + 1 then _ else hpR (stR (alo (alo h (3, 0)) (10, N)) (hpS h) 0 (some (hpS h + 1))) a j) = _
      rw [if_neg n2, hpR_stR, if_neg n0, hpR_alo, hpS_alo, if_neg n1, hpR_alo, if_neg n0]
  · intro z
    have a := zr_alo (kd := (3, 0)) z
    have b := zr_alo (kd := (10, N)) a
    have c : Zr (hpS h) (hpS (stR (alo (alo h (3, 0)) (10, N)) (hpS h) 0 (some (hpS h + 1)))) (stR (alo (alo h (3, 0)) (10, N)) (hpS h) 0 (some (hpS h + 1))) := b
    have d := zr_alo (kd := (12, N)) c
    exact d
  · intro q z
    have a := zr_alo (kd := (3, 0)) z
    have b := zr_alo (kd := (10, N)) a
    have c : Zr q (hpS (stR (alo (alo h (3, 0)) (10, N)) (hpS h) 0 (some (hpS h + 1)))) (stR (alo (alo h (3, 0)) (10, N)) (hpS h) 0 (some (hpS h + 1))) := b
    have d := zr_alo (kd := (12, N)) c
    exact d
theorem up_stR (h : Hp) (T j : Nat) (v : Option Nat) : hpR (stR h T j v) T = up1 (hpR h T) j v := by
  funext i; rw [hpR_stR, if_pos rfl]; rfl
theorem stR_ne {h : Hp} {T b j : Nat} {v : Option Nat} (e : T ≠ b) : hpR (stR h b j v) T = hpR h T := by
  funext i; rw [hpR_stR, if_neg e]
/-- a step's object, new -/
theorem step_new (h : Hp) {k : Nat} : ∃ h', f_X6_init (hpS h) (some k) (alo h (6, 0)) = some ((), h') ∧ hpS h' = hpS h + 29 ∧ S0 h' (hpS h) k ∧ Ux (fun _ => False) (hpS h) h h' ∧ ∀ q, q ≤ hpS h → Zr q (hpS h) h → Zr q (hpS h + 29) h' := by
  generalize eT : hpS h = T
  -- the object
  generalize e0 : stR (alo h (6, 0)) T 0 (some k) = h0
  have K0 : hpK h0 T = some (6, 0) := by rw [← e0]; show hpK (alo h (6, 0)) T = _; rw [hpK_alo, if_pos eT.symm]
  have s0 : hpS h0 = T + 1 := by rw [← e0]; show hpS h + 1 = _; omega
  have U0 : Ux (fun a => a = T ∨ a = T + 10) T h h0 := by
    rw [← e0]
    have a : Ux (fun a => a = T ∨ a = T + 10) (hpS h) h (alo h (6, 0)) := ux_alo
    rw [eT] at a
    exact a.trans (ux_stR (q := T) (Or.inl rfl)) (by omega)
  have R0 : hpR h0 T = up1 (fun _ => none) 0 (some k) := by
    rw [← e0, up_stR]; congr 1; funext i; rw [hpR_alo, if_pos eT.symm]
  have Z0 : ∀ q, q ≤ T → Zr q T h → Zr q (T + 1) h0 := fun q _ z => by
    rw [← e0]; have := zr_alo (kd := (6, 0)) (q := q) (h := h) (by rw [eT]; exact z); rw [hpS_alo, eT] at this; exact this
  -- a row behind it
  have row : ∀ (g : Hp) (o j : Nat), hpS g = T + o → 1 ≤ o → hpK g T = some (6, 0) → ∃ g', f_X3_init (T + o) (nI 6) (alo g (3, 0)) = some ((), g') ∧ hpS g' = T + o + 3 ∧ RW g' (T + o) 6 ∧ Ux (fun _ => False) (T + o) g g' ∧ (∀ q, Zr q (T + o) g → Zr q (T + o + 3) g') ∧ hpK g' T = some (6, 0) ∧ hpR g' T = hpR g T := fun g o j hg ho hk => by
    obtain ⟨g', a1, a2, a3, a4, a5, a6⟩ := row_new g (N := 6) (by omega)
    rw [hg] at a1 a2 a3 a4 a6
    exact ⟨g', a1, a2, a3, a4, a6, by rw [(a4 T (by omega)).1]; exact hk, (a4 T (by omega)).2.2.2 (fun z => z)⟩
  obtain ⟨h1, f1, s1, w1, u1, z1, k1, r1⟩ := row h0 1 6 s0 (by omega) K0
  generalize e2 : stR h1 T 6 (some (T + 1)) = h2
  have K2 : hpK h2 T = some (6, 0) := by rw [← e2]; exact k1
  have S2 : hpS h2 = T + 4 := by rw [← e2]; exact s1
  have R2 : hpR h2 T = up1 (hpR h0 T) 6 (some (T + 1)) := by rw [← e2, up_stR, r1]
  have U2 : Ux (fun a => a = T ∨ a = T + 10) (T + 1) h0 h2 := by rw [← e2]; exact (u1.mono (fun _ _ z => z.elim)).trans (ux_stR (q := T + 1) (Or.inl rfl)) (by omega)
  have w1' : RW h2 (T + 1) 6 := by rw [← e2]; exact rw_stR w1 (by rw [k1]; decide)
  obtain ⟨h3, f3, s3, w3, u3, z3, k3, r3⟩ := row h2 4 7 S2 (by omega) K2
  generalize e4 : stR h3 T 7 (some (T + 4)) = h4
  have K4 : hpK h4 T = some (6, 0) := by rw [← e4]; exact k3
  have S4 : hpS h4 = T + 7 := by rw [← e4]; exact s3
  have R4 : hpR h4 T = up1 (hpR h2 T) 7 (some (T + 4)) := by rw [← e4, up_stR, r3]
  have U4 : Ux (fun a => a = T ∨ a = T + 10) (T + 4) h2 h4 := by rw [← e4]; exact (u3.mono (fun _ _ z => z.elim)).trans (ux_stR (q := T + 4) (Or.inl rfl)) (by omega)
  have w3' : RW h4 (T + 4) 6 := by rw [← e4]; exact rw_stR w3 (by rw [k3]; decide)
  obtain ⟨h5, f5, s5, w5, u5, z5, k5, r5⟩ := row h4 7 8 S4 (by omega) K4
  generalize e6 : stR h5 T 8 (some (T + 7)) = h6
  have K6 : hpK h6 T = some (6, 0) := by rw [← e6]; exact k5
  have S6 : hpS h6 = T + 10 := by rw [← e6]; exact s5
  have R6 : hpR h6 T = up1 (hpR h4 T) 8 (some (T + 7)) := by rw [← e6, up_stR, r5]
  have U6 : Ux (fun a => a = T ∨ a = T + 10) (T + 7) h4 h6 := by rw [← e6]; exact (u5.mono (fun _ _ z => z.elim)).trans (ux_stR (q := T + 7) (Or.inl rfl)) (by omega)
  have w5' : RW h6 (T + 7) 6 := by rw [← e6]; exact rw_stR w5 (by rw [k5]; decide)
  -- the row of rows
  generalize e7 : stR (alo h6 (14, 4)) T 9 (some (T + 10)) = h7
  have K7 : hpK h7 T = some (6, 0) := by rw [← e7]; show hpK (alo h6 (14, 4)) T = _; rw [hpK_alo, if_neg (by omega)]; exact K6
  have K7a : hpK h7 (T + 10) = some (14, 4) := by rw [← e7]; show hpK (alo h6 (14, 4)) (T + 10) = _; rw [hpK_alo, if_pos S6.symm]
  have S7 : hpS h7 = T + 11 := by rw [← e7]; show hpS h6 + 1 = _; omega
  have R7 : hpR h7 T = up1 (hpR h6 T) 9 (some (T + 10)) := by
    rw [← e7, up_stR]; congr 1; funext i; rw [hpR_alo, if_neg (by omega)]
  have U7 : Ux (fun a => a = T ∨ a = T + 10) (T + 10) h6 h7 := by
    rw [← e7]
    have a : Ux (fun a => a = T ∨ a = T + 10) (hpS h6) h6 (alo h6 (14, 4)) := ux_alo
    rw [S6] at a
    exact a.trans (ux_stR (q := T + 10) (Or.inl rfl)) (by omega)
  have Z7 : ∀ q, q ≤ T → Zr q T h → Zr q (T + 11) h7 := fun q hq z => by
    have a1 := Z0 q hq z
    have a2 := z1 q a1
    have a3 : Zr q (T + 4) h2 := by rw [← e2]; exact a2
    have a4 := z3 q a3
    have a5 : Zr q (T + 7) h4 := by rw [← e4]; exact a4
    have a6 := z5 q a5
    have a7 : Zr q (T + 10) h6 := by rw [← e6]; exact a6
    have := zr_alo (kd := (14, 4)) (q := q) (h := h6) (by rw [S6]; exact a7)
    rw [hpS_alo, S6] at this
    rw [← e7]; exact this
  have U07 : Ux (fun a => a = T ∨ a = T + 10) (T + 1) h0 h7 := U2.trans (U4.trans (U6.trans U7 (by omega)) (by omega)) (by omega)
  -- the four rows
  have loop : ∀ (d i : Nat) (g : Hp), i + d = 4 → hpS g = T + 11 + 3 * i → hpK g T = some (6, 0) → hpR g T = hpR h7 T → hpK g (T + 10) = some (14, 4) → (∀ j, j < i → hpR g (T + 10) j = some (T + (11 + 3 * j))) → (∀ j, j < i → RW g (T + (11 + 3 * j)) 6) → Ux (fun a => a = T ∨ a = T + 10) (T + 11) h7 g → (∀ q, Zr q (T + 11) h7 → Zr q (T + 11 + 3 * i) g) →
      ∃ g', f_X6_init_58 (d + 1) (some T) (nI i) g = f_X6_init_58 1 (some T) (nI 4) g' ∧ hpS g' = T + 23 ∧ hpK g' T = some (6, 0) ∧ hpR g' T = hpR h7 T ∧ hpK g' (T + 10) = some (14, 4) ∧ (∀ j, j < 4 → hpR g' (T + 10) j = some (T + (11 + 3 * j))) ∧ (∀ j, j < 4 → RW g' (T + (11 + 3 * j)) 6) ∧ Ux (fun a => a = T ∨ a = T + 10) (T + 11) h7 g' ∧ (∀ q, Zr q (T + 11) h7 → Zr q (T + 23) g') := by
    intro d
    induction d with
    | zero =>
      intro i g hi a1 a2 a3 a4 a5 a6 a7 a8
      have : i = 4 := by omega
      subst this
      exact ⟨g, rfl, by omega, a2, a3, a4, a5, a6, a7, a8⟩
    | succ d ih =>
      intro i g hi a1 a2 a3 a4 a5 a6 a7 a8
      obtain ⟨g1, b1, b2, b3, b4, b5, b6, b7⟩ := row g (11 + 3 * i) 0 (by omega) (by omega) a2
      have c4 : hpK g1 (T + 10) = some (14, 4) := by rw [(b4 (T + 10) (by omega)).1]; exact a4
      have c5 : hpR g1 (T + 10) = hpR g (T + 10) := (b4 (T + 10) (by omega)).2.2.2 (fun z => z)
      have b3K : hpK g1 (T + (11 + 3 * i)) = some (3, 0) := b3.1
      obtain ⟨g', r⟩ := ih (i + 1) (stR g1 (T + 10) i (some (T + (11 + 3 * i)))) (by omega) (by show hpS g1 = _; omega) b6 (by rw [stR_ne (by omega), b7]; exact a3) c4 (fun j hj => by
        rw [up_stR, c5]
        by_cases e : j = i
        · subst e; rw [up1_self]
        · rw [up1_ne e]; exact a5 j (by omega)) (fun j hj => by
        refine rw_stR ?_ (by rw [c4]; decide)
        by_cases e : j = i
        · subst e; exact b3
        · exact rw_ux b4 (by omega) (fun z => z) (a6 j (by omega))) (a7.trans ((b4.mono (fun _ _ z => z.elim)).trans (ux_stR (q := T + (11 + 3 * i)) (Or.inr rfl)) (by omega)) (by omega)) (fun q z => by
        have := b5 q (by rw [show T + (11 + 3 * i) = T + 11 + 3 * i by omega]; exact a8 q z)
        rw [show T + (11 + 3 * i) + 3 = T + 11 + 3 * (i + 1) by omega] at this
        exact this)
      refine ⟨g', ?_, r.2⟩
      rw [f_X6_init_58, getR_ok a2, Option.bind_some]
      have r9 : hpR g T 9 = some (T + 10) := by rw [a3, R7, up1_self]
      rw [r9, alen_ok a4, Option.bind_some, if_neg (by show ¬ nI 4 ≤ nI i; rw [ni_le (by omega) (by omega)]; omega), Option.bind_some]
      show bnd (f_X3_init (hpS g) 6 (alo g (3, 0))) _ = _
      rw [show hpS g = T + (11 + 3 * i) by omega, show f_X3_init (T + (11 + 3 * i)) 6 (alo g (3, 0)) = _ from b1, bnd_some, astR_ok c4 (ni_in (show i < 4 by omega) (by omega)) (show hpK g1 (T + (11 + 3 * i)) = some (ab_ec 14, 0) from b3K), Option.bind_some, ni_cl (by omega), li1, ni_add]
      exact r.1
  obtain ⟨h8, f8, s8, K8, R8, K8a, R8a, W8, U8, Z8⟩ := loop 4 0 h7 (by omega) (by omega) K7 rfl K7a (fun j hj => by omega) (fun j hj => by omega) (Ux.refl _ _ _) (fun q z => z)
  obtain ⟨h9, f9, s9, w9, u9, z9, k9, r9⟩ := row h8 23 10 s8 (by omega) K8
  generalize e10 : stR h9 T 10 (some (T + 23)) = h10
  have K10 : hpK h10 T = some (6, 0) := by rw [← e10]; exact k9
  have S10 : hpS h10 = T + 26 := by rw [← e10]; exact s9
  have R10 : hpR h10 T = up1 (hpR h8 T) 10 (some (T + 23)) := by rw [← e10, up_stR, r9]
  have U10 : Ux (fun a => a = T) (T + 23) h8 h10 := by rw [← e10]; exact (u9.mono (fun _ _ z => z.elim)).trans (ux_stR (q := T + 23) rfl) (by omega)
  have w9' : RW h10 (T + 23) 6 := by rw [← e10]; exact rw_stR w9 (by rw [k9]; decide)
  obtain ⟨h11, f11, s11, w11, u11, z11, k11, r11⟩ := row h10 26 11 S10 (by omega) K10
  generalize e12 : stR h11 T 11 (some (T + 26)) = h12
  have U12 : Ux (fun a => a = T) (T + 26) h10 h12 := by rw [← e12]; exact (u11.mono (fun _ _ z => z.elim)).trans (ux_stR (q := T + 26) rfl) (by omega)
  have R12 : hpR h12 T = up1 (hpR h10 T) 11 (some (T + 26)) := by rw [← e12, up_stR, r11]
  have w11' : RW h12 (T + 26) 6 := by rw [← e12]; exact rw_stR w11 (by rw [k11]; decide)
  have U8' : Ux (fun a => a = T) (T + 23) h8 h12 := U10.trans U12 (by omega)
  have w9'' : RW h12 (T + 23) 6 := rw_ux U12 (by omega) (by omega) w9'
  have RT : hpR h12 T = up1 (up1 (up1 (up1 (up1 (up1 (up1 (fun _ => none) 0 (some k)) 6 (some (T + 1))) 7 (some (T + 4))) 8 (some (T + 7))) 9 (some (T + 10))) 10 (some (T + 23))) 11 (some (T + 26)) := by
    rw [R12, R10, R8, R7, R6, R4, R2, R0]
  refine ⟨h12, ?_, by rw [← e12]; exact s11, ⟨by rw [← e12]; exact k11, by rw [RT]; rfl, by rw [RT]; rfl, by rw [RT]; rfl, by rw [RT]; rfl, by rw [RT]; rfl, by rw [RT]; rfl, by rw [RT]; rfl, ?_, fun j hj => ?_, fun r hr => ?_⟩, ?_, fun q hq z => ?_⟩
  · have kk : hpK (alo h (6, 0)) T = some (6, 0) := by rw [hpK_alo, if_pos eT.symm]
    unfold f_X6_init
    rw [putR_ok kk, Option.bind_some, e0]
    show bnd (f_X3_init (hpS h0) 6 (alo h0 (3, 0))) _ = _
    rw [s0, show f_X3_init (T + 1) 6 (alo h0 (3, 0)) = _ from f1, bnd_some, putR_ok k1, Option.bind_some, e2]
    show bnd (f_X3_init (hpS h2) 6 (alo h2 (3, 0))) _ = _
    rw [S2, show f_X3_init (T + 4) 6 (alo h2 (3, 0)) = _ from f3, bnd_some, putR_ok k3, Option.bind_some, e4]
    show bnd (f_X3_init (hpS h4) 6 (alo h4 (3, 0))) _ = _
    rw [S4, show f_X3_init (T + 7) 6 (alo h4 (3, 0)) = _ from f5, bnd_some, putR_ok k5, Option.bind_some, e6, show newa h6 14 4 = _ from newa_ok (N := 4) (by omega), bnd_some, S6, putR_ok (by rw [hpK_alo, if_neg (by omega)]; exact K6), Option.bind_some, e7]
    have f8' : f_X6_init_58 5 (some T) 0 h7 = _ := f8
    rw [f8', f_X6_init_58, getR_ok K8, Option.bind_some]
    have r9' : hpR h8 T 9 = some (T + 10) := by rw [R8, R7, up1_self]
    rw [r9', alen_ok K8a, Option.bind_some, if_pos (by show nI 4 ≤ nI 4; exact (ni_le (by omega) (by omega)).mpr (Nat.le_refl _))]
    show bnd (f_X3_init (hpS h8) 6 (alo h8 (3, 0))) _ = _
    rw [s8, show f_X3_init (T + 23) 6 (alo h8 (3, 0)) = _ from f9, bnd_some, putR_ok k9, Option.bind_some, e10]
    show bnd (f_X3_init (hpS h10) 6 (alo h10 (3, 0))) _ = _
    rw [S10, show f_X3_init (T + 26) 6 (alo h10 (3, 0)) = _ from f11, bnd_some, putR_ok k11, Option.bind_some, e12]
  · rw [(U8' (T + 10) (by omega)).1]; exact K8a
  · rw [(U8' (T + 10) (by omega)).2.2.2 (by omega)]; exact R8a j hj
  · rcases hr with rfl | rfl | rfl | rfl | rfl | rfl | rfl | rfl | rfl
    · exact rw_ux U8' (by omega) (by omega) (rw_ux (q := T + 11) U8 (by omega) (by omega) (rw_ux (q := T + 4) (U4.trans (U6.trans U7 (by omega)) (by omega)) (by omega) (by omega) w1'))
    · exact rw_ux U8' (by omega) (by omega) (rw_ux (q := T + 11) U8 (by omega) (by omega) (rw_ux (q := T + 7) (U6.trans U7 (by omega)) (by omega) (by omega) w3'))
    · exact rw_ux U8' (by omega) (by omega) (rw_ux (q := T + 11) U8 (by omega) (by omega) (rw_ux (q := T + 10) U7 (by omega) (by omega) w5'))
    · exact rw_ux U8' (by omega) (by omega) (W8 0 (by omega))
    · exact rw_ux U8' (by omega) (by omega) (W8 1 (by omega))
    · exact rw_ux U8' (by omega) (by omega) (W8 2 (by omega))
    · exact rw_ux U8' (by omega) (by omega) (W8 3 (by omega))
    · exact w9''
    · exact w11'
  · have a : Ux (fun a => a = T ∨ a = T + 10) T h h12 := U0.trans (U07.trans (U8.trans (U8'.mono (fun _ _ z => Or.inl z)) (by omega)) (by omega)) (by omega)
    exact a.mono (fun x hx z => by omega)
  · have a1 := Z8 q (Z7 q hq z)
    have a2 := z9 q a1
    have a3 : Zr q (T + 26) h10 := by rw [← e10]; exact a2
    have a4 := z11 q a3
    rw [← e12]; exact a4
