/-! ===== the class's object, new ===== -/
def pw2 (i : Nat) : UInt64 := dE (1023 + 2 ^ min i 9) 0
theorem pw2_sq {i : Nat} (hi : i < 9) : FP.dmul (pw2 i) (pw2 i) = pw2 (i + 1) ∧ Nm (FP.dmul (pw2 i) (pw2 i)) := by
  have := (by unfold pw2 Nm; decide +kernel : ∀ i : Fin 9, FP.dmul (pw2 i.1) (pw2 i.1) = pw2 (i.1 + 1) ∧ Nm (FP.dmul (pw2 i.1) (pw2 i.1))) ⟨i, hi⟩
  exact this
def TL (g g' : Hp) (T i : Nat) : Prop := hpS g' = hpS g ∧ hpK g' = hpK g ∧ hpR g' = hpR g ∧ hpI g' = hpI g ∧ (∀ a, a ≠ T + 1 → hpD g' a = hpD g a) ∧ ∀ j, i ≤ j → j < 10 → hpD g' (T + 1) j = pw2 j
theorem tl_loop {T : Nat} : ∀ k i f (g : Hp), hpK g T = some (7, 0) → hpR g T 0 = some (T + 1) → hpK g (T + 1) = some (10, 10) → i + k = 10 → k < f → ∃ g', f_X7_init_18 f (some T) (pw2 i) (nI i) g = some ((), g') ∧ TL g g' T i ∧ ∀ j, j < i → hpD g' (T + 1) j = hpD g (T + 1) j := by
  intro k
  induction k with
  | zero =>
    intro i f g K R A e hf
    cases f with
    | zero => omega
    | succ f =>
      refine ⟨g, ?_, ⟨rfl, rfl, rfl, rfl, fun _ _ => rfl, fun j h1 h2 => by omega⟩, fun _ _ => rfl⟩
      unfold f_X7_init_18
      rw [getR_ok K, Option.bind_some, R, alen_ok A, Option.bind_some, show Int32.ofNat 10 = nI 10 from rfl, if_pos (by rw [ni_le (by omega) (by omega)]; omega)]
  | succ k ih =>
    intro i f g K R A e hf
    cases f with
    | zero => omega
    | succ f =>
      have K1 : hpK (stD g (T + 1) i (pw2 i)) T = some (7, 0) := K
      have R1 : hpR (stD g (T + 1) i (pw2 i)) T 0 = some (T + 1) := R
      have A1 : hpK (stD g (T + 1) i (pw2 i)) (T + 1) = some (10, 10) := A
      obtain ⟨g', u, ⟨n1, n2, n3, n4, n5, n6⟩, n7⟩ := ih (i + 1) f _ K1 R1 A1 (by omega) (by omega)
      refine ⟨g', ?_, ⟨n1, n2, n3, n4, fun a ha => by rw [n5 a ha]; exact hpD_stD_row ha, fun j h1 h2 => ?_⟩, fun j hj => ?_⟩
      · unfold f_X7_init_18 f_X7_init_52
        rw [getR_ok K, Option.bind_some, R, alen_ok A, Option.bind_some, show Int32.ofNat 10 = nI 10 from rfl, if_neg (by rw [ni_le (by omega) (by omega)]; omega), Option.bind_some, astD_ok A (ni_in (show i < 10 by omega) (by omega)), ni_cl (by omega), Option.bind_some, getR_ok K1, Option.bind_some, R1, alen_ok A1, Option.bind_some, show Int32.ofNat 10 = nI 10 from rfl, show nI 10 - 1 = nI 9 from by decide, show nI i + 1 = nI (i + 1) by rw [li1, ni_add]]
        by_cases z : i = 9
        · rw [if_pos (by rw [ni_le (by omega) (by omega)]; omega)]
          rw [show pw2 (i + 1) = pw2 i by unfold pw2; rw [z]; rfl] at u
          exact u
        · rw [if_neg (by rw [ni_le (by omega) (by omega)]; omega), fop_ok (pw2_sq (show i < 9 by omega)).2, Option.bind_some, (pw2_sq (show i < 9 by omega)).1]
          exact u
      · by_cases z : j = i
        · rw [n7 j (by omega), z, hpD_stD_self]
        · exact n6 j (by omega) h2
      · rw [n7 j (by omega), hpD_stD_ne (Or.inr (by omega))]
theorem teller_new (h : Hp) : ∃ h', f_X7_init (hpS h) (alo h (7, 0)) = some ((), h') ∧ hpS h' = hpS h + 2 ∧ hpK h' (hpS h) = some (7, 0) ∧ hpR h' (hpS h) 0 = some (hpS h + 1) ∧ hpK h' (hpS h + 1) = some (10, 10) ∧ (∀ i, i < 10 → hpD h' (hpS h + 1) i = dE (1023 + 2 ^ i) 0) ∧ Ux (fun _ => False) (hpS h) h h' := by
  generalize eT : hpS h = T
  have K0 : hpK (alo h (7, 0)) T = some (7, 0) := by rw [hpK_alo, if_pos eT.symm]
  have s0 : hpS (alo h (7, 0)) = T + 1 := by rw [hpS_alo, eT]
  have U0 : Ux (fun a => a = T) T h (alo h (7, 0)) := by have a : Ux (fun a => a = T) (hpS h) h (alo h (7, 0)) := ux_alo; rw [eT] at a; exact a
  have R0 : hpR (alo h (7, 0)) T = fun _ => none := by funext i; rw [hpR_alo, if_pos eT.symm]
  generalize alo h (7, 0) = g0 at K0 s0 U0 R0
  have a1 := an_mk (t := 10) (N := 10) (j := 0) (show T < T + 1 by omega) s0
  have p1 := an_put (t := 10) (N := 10) (j := 0) (show T < T + 1 by omega) s0 K0
  generalize stR (alo g0 (10, 10)) T 0 (some (T + 1)) = g1 at a1 p1
  have K1 := an_K a1 (by omega) K0
  have R1 : hpR g1 T 0 = some (T + 1) := by rw [a1.2.2.1, up1_self]
  obtain ⟨g', u, ⟨n1, n2, n3, n4, n5, n6⟩, -⟩ := tl_loop 10 0 fuelN g1 K1 R1 a1.2.1 (by omega) (by unfold fuelN; omega)
  refine ⟨g', ?_, by rw [n1, a1.1], by rw [n2]; exact K1, by rw [n3]; exact R1, by rw [n2]; exact a1.2.1, fun i hi => ?_, fun a ha => ?_⟩
  · unfold f_X7_init
    rw [show newa g0 10 10 = _ from newa_ok (N := 10) (by omega), bnd_some, s0, p1, Option.bind_some]
    rw [show pw2 0 = 4611686018427387904 by decide +kernel] at u
    exact u
  · rw [n6 i (by omega) hi]; unfold pw2; rw [Nat.min_eq_left (by omega)]
  · obtain ⟨b1, b2, b3, b4⟩ := U0.trans a1.2.2.2.1 (by omega) a ha
    exact ⟨by rw [n2]; exact b1, by rw [n4]; exact b2, by rw [n5 a (by omega)]; exact b3, fun _ => by rw [n3]; exact b4 (by omega)⟩
def XC (h : Hp) (c : Nat) : Prop := hpK h c = some (8, 0) ∧ hpR h c 0 = some (c + 1) ∧ hpR h c 1 = some (c + 2) ∧ hpR h c 2 = some (c + 4) ∧ hpR h c 4 = some (c + 5) ∧ hpR h c 6 = some (c + 6) ∧ hpR h c 8 = some (c + 7) ∧ hpR h c 9 = some (c + 8) ∧ hpR h c 10 = some (c + 37) ∧ hpK h (c + 4) = some (13, 8) ∧ hpK h (c + 5) = some (16, 8) ∧ hpK h (c + 6) = some (15, 4) ∧ hpK h (c + 7) = some (15, 5) ∧ hpK h (c + 2) = some (7, 0) ∧ hpR h (c + 2) 0 = some (c + 3) ∧ hpK h (c + 3) = some (10, 10)
theorem cls_new (h : Hp) : ∃ h', f_X8_init (hpS h) (alo h (8, 0)) = some ((), h') ∧ hpS h' = hpS h + 66 ∧ XC h' (hpS h) ∧ TE h' (hpS h) ∧ RK h' (hpS h + 1) ∧ S0 h' (hpS h + 8) (hpS h + 1) ∧ SN h' (hpS h + 8) ∧ S0 h' (hpS h + 37) (hpS h + 1) ∧ SN h' (hpS h + 37) ∧ (∀ j, hpI h' (hpS h) j = 0) ∧ ∀ p, hpR h' (hpS h + 7) p = none := by
  generalize eT : hpS h = c
  have K0 : hpK (alo h (8, 0)) c = some (8, 0) := by rw [hpK_alo, if_pos eT.symm]
  have s0 : hpS (alo h (8, 0)) = c + 1 := by rw [hpS_alo, eT]
  have R0 : hpR (alo h (8, 0)) c = fun _ => none := by funext i; rw [hpR_alo, if_pos eT.symm]
  have I0 : ∀ j, hpI (alo h (8, 0)) c j = 0 := fun j => by rw [hpI_alo, if_pos eT.symm]
  generalize alo h (8, 0) = g0 at K0 s0 R0 I0 ⊢
  have k2a : hpK (alo g0 (2, 0)) (c + 1) = some (2, 0) := by rw [hpK_alo, if_pos s0.symm]
  have kca : hpK (stD (alo g0 (2, 0)) (c + 1) 0 9218868437227405311) c = some (8, 0) := by show hpK (alo g0 (2, 0)) c = _; rw [hpK_alo, if_neg (by omega)]; exact K0
  generalize e1 : stR (stD (alo g0 (2, 0)) (c + 1) 0 9218868437227405311) c 0 (some (c + 1)) = g1
  have K1 : hpK g1 c = some (8, 0) := by rw [← e1]; exact kca
  have s1 : hpS g1 = c + 2 := by rw [← e1]; show hpS g0 + 1 = _; omega
  have R1 : hpR g1 c = up1 (fun _ => none) 0 (some (c + 1)) := by
    rw [← e1, up_stR]; congr 1; funext i; show hpR (alo g0 (2, 0)) c i = none; rw [hpR_alo, if_neg (by omega), R0]
  have I1 : ∀ j, hpI g1 c j = 0 := fun j => by rw [← e1]; show hpI (alo g0 (2, 0)) c j = 0; rw [hpI_alo, if_neg (by omega)]; exact I0 j
  have RK1 : RK g1 (c + 1) := by
    rw [← e1]
    refine ⟨k2a, ?_⟩
    show hpD (stD (alo g0 (2, 0)) (c + 1) 0 9218868437227405311) (c + 1) 0 = _
    rw [hpD_stD_self]
  obtain ⟨g2, f2, s2, k2, r2, k23, d2, u2⟩ := teller_new g1
  rw [s1] at f2 s2 k2 r2 k23 d2 u2
  have kc2 : hpK g2 c = some (8, 0) := by rw [(u2 c (by omega)).1]; exact K1
  generalize e3 : stR g2 c 1 (some (c + 2)) = g3
  have K3 : hpK g3 c = some (8, 0) := by rw [← e3]; exact kc2
  have s3 : hpS g3 = c + 4 := by rw [← e3]; exact s2
  have R3 : hpR g3 c = up1 (up1 (fun _ => none) 0 (some (c + 1))) 1 (some (c + 2)) := by rw [← e3, up_stR, (u2 c (by omega)).2.2.2 (fun z => z), R1]
  have u3 : Ux (fun a => a = c) (c + 4) g2 g3 := by rw [← e3]; exact ux_stR rfl
  have a4 := an_mk (t := 13) (N := 8) (j := 2) (show c < c + 4 by omega) s3
  have p4 := an_put (t := 13) (N := 8) (j := 2) (show c < c + 4 by omega) s3 K3
  generalize stR (alo g3 (13, 8)) c 2 (some (c + 4)) = g4 at a4 p4
  have K4 := an_K a4 (by omega) K3
  have s4 : hpS g4 = c + 5 := a4.1
  have a5 := an_mk (t := 16) (N := 8) (j := 4) (show c < c + 5 by omega) s4
  have p5 := an_put (t := 16) (N := 8) (j := 4) (show c < c + 5 by omega) s4 K4
  generalize stR (alo g4 (16, 8)) c 4 (some (c + 5)) = g5 at a5 p5
  have K5 := an_K a5 (by omega) K4
  have s5 : hpS g5 = c + 6 := a5.1
  have a6 := an_mk (t := 15) (N := 4) (j := 6) (show c < c + 6 by omega) s5
  have p6 := an_put (t := 15) (N := 4) (j := 6) (show c < c + 6 by omega) s5 K5
  generalize stR (alo g5 (15, 4)) c 6 (some (c + 6)) = g6 at a6 p6
  have K6 := an_K a6 (by omega) K5
  have s6 : hpS g6 = c + 7 := a6.1
  have a7 := an_mk (t := 15) (N := 5) (j := 8) (show c < c + 7 by omega) s6
  have p7 := an_put (t := 15) (N := 5) (j := 8) (show c < c + 7 by omega) s6 K6
  have r7n : ∀ p, hpR (stR (alo g6 (15, 5)) c 8 (some (c + 7))) (c + 7) p = none := fun p => by rw [stR_ne (by omega), hpR_alo, if_pos s6.symm]
  generalize stR (alo g6 (15, 5)) c 8 (some (c + 7)) = g7 at a7 p7 r7n
  have K7 := an_K a7 (by omega) K6
  have s7 : hpS g7 = c + 8 := a7.1
  have R7 : hpR g7 c = up1 (up1 (up1 (up1 (up1 (up1 (fun _ => none) 0 (some (c + 1))) 1 (some (c + 2))) 2 (some (c + 4))) 4 (some (c + 5))) 6 (some (c + 6))) 8 (some (c + 7)) := by
    rw [a7.2.2.1, a6.2.2.1, a5.2.2.1, a4.2.2.1, R3]
  obtain ⟨g8, f8, s8, S8, u8, z8⟩ := step_new g7 (k := c + 1)
  rw [s7] at f8 s8 S8 u8 z8
  have kc8 : hpK g8 c = some (8, 0) := by rw [(u8 c (by omega)).1]; exact K7
  generalize e9 : stR g8 c 9 (some (c + 8)) = g9
  have K9 : hpK g9 c = some (8, 0) := by rw [← e9]; exact kc8
  have s9 : hpS g9 = c + 37 := by rw [← e9]; exact s8
  have R9 : hpR g9 c = up1 (hpR g7 c) 9 (some (c + 8)) := by rw [← e9, up_stR, (u8 c (by omega)).2.2.2 (fun z => z)]
  have u9 : Ux (fun a => a = c) (c + 37) g8 g9 := by rw [← e9]; exact ux_stR rfl
  obtain ⟨g10, f10, s10, S10, u10, z10⟩ := step_new g9 (k := c + 1)
  rw [s9] at f10 s10 S10 u10 z10
  have kc10 : hpK g10 c = some (8, 0) := by rw [(u10 c (by omega)).1]; exact K9
  generalize e11 : stR g10 c 10 (some (c + 37)) = g11
  have s11 : hpS g11 = c + 66 := by rw [← e11]; exact s10
  have u11 : Ux (fun a => a = c) (c + 66) g10 g11 := by rw [← e11]; exact ux_stR rfl
  have R11 : hpR g11 c = up1 (up1 (hpR g7 c) 9 (some (c + 8))) 10 (some (c + 37)) := by rw [← e11, up_stR, (u10 c (by omega)).2.2.2 (fun z => z), R9]
  rw [R7] at R11
  have U9 : Ux (fun a => a = c) (c + 37) g9 g11 := (u10.mono (fun _ _ z => z.elim)).trans u11 (by omega)
  have U8 : Ux (fun a => a = c) (c + 37) g8 g11 := u9.trans U9 (by omega)
  have U7 : Ux (fun a => a = c) (c + 8) g7 g11 := (u8.mono (fun _ _ z => z.elim)).trans U8 (by omega)
  have U6 : Ux (fun a => a = c) (c + 7) g6 g11 := a7.2.2.2.1.trans U7 (by omega)
  have U5 : Ux (fun a => a = c) (c + 6) g5 g11 := a6.2.2.2.1.trans U6 (by omega)
  have U4 : Ux (fun a => a = c) (c + 5) g4 g11 := a5.2.2.2.1.trans U5 (by omega)
  have U3 : Ux (fun a => a = c) (c + 4) g3 g11 := a4.2.2.2.1.trans U4 (by omega)
  have U2 : Ux (fun a => a = c) (c + 4) g2 g11 := u3.trans U3 (by omega)
  have U1 : Ux (fun a => a = c) (c + 2) g1 g11 := (u2.mono (fun _ _ z => z.elim)).trans U2 (by omega)
  have G8 : Gr (fun a => a = c) g8 g11 := gr_ux (by rw [s8]; exact U8) (by omega)
  have G10 : Gr (fun a => a = c) g10 g11 := gr_ux (by rw [s10]; exact u11) (by omega)
  have Z8 : Zr (c + 8) (c + 8 + 29) g8 := z8 (c + 8) (Nat.le_refl _) (fun a h1 h2 => by omega)
  have Z10 : Zr (c + 37) (c + 37 + 29) g10 := z10 (c + 37) (Nat.le_refl _) (fun a h1 h2 => by omega)
  have N8 : SN g8 (c + 8) := fun r hr => by have := isr_le hr; exact zr_RN Z8 (by omega) (by omega)
  have N10 : SN g10 (c + 37) := fun r hr => by have := isr_le hr; exact zr_RN Z10 (by omega) (by omega)
  have ka8 : hpK (alo g7 (6, 0)) c = some (8, 0) := by rw [hpK_alo, if_neg (by omega)]; exact K7
  have ra8 : hpR (alo g7 (6, 0)) c 0 = some (c + 1) := by rw [hpR_alo, if_neg (by omega), R7]; rfl
  have ka10 : hpK (alo g9 (6, 0)) c = some (8, 0) := by rw [hpK_alo, if_neg (by omega)]; exact K9
  have ra10 : hpR (alo g9 (6, 0)) c 0 = some (c + 1) := by rw [hpR_alo, if_neg (by omega), R9, R7]; rfl
  have Kc : hpK g11 c = some (8, 0) := by rw [(U7 c (by omega)).1]; exact K7
  refine ⟨g11, ?_, s11, ⟨Kc, by rw [R11]; rfl, by rw [R11]; rfl, by rw [R11]; rfl, by rw [R11]; rfl, by rw [R11]; rfl, by rw [R11]; rfl, by rw [R11]; rfl, by rw [R11]; rfl, by rw [(U4 _ (by omega)).1]; exact a4.2.1, by rw [(U5 _ (by omega)).1]; exact a5.2.1, by rw [(U6 _ (by omega)).1]; exact a6.2.1, by rw [(U7 _ (by omega)).1]; exact a7.2.1, by rw [(U2 _ (by omega)).1]; exact k2, by rw [(U2 _ (by omega)).2.2.2 (by omega)]; exact r2, by rw [(U2 _ (by omega)).1]; exact k23⟩, fun i hi => by rw [(U2 _ (by omega)).2.2.1]; exact d2 i hi, ⟨by rw [(U1 _ (by omega)).1]; exact RK1.1, by rw [(U1 _ (by omega)).2.2.1]; exact RK1.2⟩, gr_s0 G8 (by omega) (fun a h1 h2 z => by omega) S8, gr_sn G8 (by omega) (fun a h1 h2 z => by omega) N8, gr_s0 G10 (by omega) (fun a h1 h2 z => by omega) S10, gr_sn G10 (by omega) (fun a h1 h2 z => by omega) N10, fun j => by rw [(U1 c (by omega)).2.1]; exact I1 j, fun p => by rw [(U7 _ (by omega)).2.2.2 (by omega)]; exact r7n p⟩
  unfold f_X8_init f_X2_init
  rw [newo_def, s0, putD_ok k2a, Option.bind_some, bnd_some, putR_ok kca, Option.bind_some, e1, newo_def, s1, f2, bnd_some, putR_ok kc2, Option.bind_some, e3, show newa g3 13 8 = _ from newa_ok (N := 8) (by omega), bnd_some, s3, p4, Option.bind_some, show newa g4 16 8 = _ from newa_ok (N := 8) (by omega), bnd_some, s4, p5, Option.bind_some, show newa g5 15 4 = _ from newa_ok (N := 4) (by omega), bnd_some, s5, p6, Option.bind_some, show newa g6 15 5 = _ from newa_ok (N := 5) (by omega), bnd_some, s6, p7, Option.bind_some, newo_def, s7, getR_ok ka8, Option.bind_some, ra8, f8, bnd_some, putR_ok kc8, Option.bind_some, e9, newo_def, s9, getR_ok ka10, Option.bind_some, ra10, f10, bnd_some, putR_ok kc10, Option.bind_some, e11]
