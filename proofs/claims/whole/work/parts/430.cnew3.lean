/-! ===== new signals and laws ===== -/
theorem signal_new (h : Hp) {how : Int32} (hh : how = 0 ∨ how = 1) : ∃ h', f_X5_init (hpS h) how (alo h (5, 0)) = some ((), h') ∧ hpS h' = hpS h + 3 ∧ SO h' (hpS h) ∧ hpI h' (hpS h) 0 = how ∧ hpI h' (hpS h) 3 = 0 ∧ Ux (fun _ => False) (hpS h) h h' := by
  generalize eT : hpS h = T
  generalize e0 : stI (alo h (5, 0)) T 0 how = g0
  have K0 : hpK g0 T = some (5, 0) := by rw [← e0]; show hpK (alo h (5, 0)) T = _; rw [hpK_alo, if_pos eT.symm]
  have s0 : hpS g0 = T + 1 := by rw [← e0]; show hpS h + 1 = _; omega
  have U0 : Ux (fun a => a = T) T h (alo h (5, 0)) := by have a : Ux (fun a => a = T) (hpS h) h (alo h (5, 0)) := ux_alo; rw [eT] at a; exact a
  have O0 : Uo T T h g0 := by rw [← e0]; exact (uo_ux U0).trans (uo_stI (q := T)) (by omega)
  have R0 : hpR g0 T = fun _ => none := by rw [← e0]; funext i; show hpR (alo h (5, 0)) T i = none; rw [hpR_alo, if_pos eT.symm]
  have i0 : hpI g0 T 0 = how ∧ hpI g0 T 3 = 0 := by
    rw [← e0]
    refine ⟨hpI_stI_self _ _ _ _, ?_⟩
    rw [hpI_stI_ne (Or.inr (by omega)), hpI_alo, if_pos eT.symm]
  have a1 := an_mk (t := 10) (N := 16) (j := 1) (show T < T + 1 by omega) s0
  have p1 := an_put (t := 10) (N := 16) (j := 1) (show T < T + 1 by omega) s0 K0
  generalize stR (alo g0 (10, 16)) T 1 (some (T + 1)) = g1 at a1 p1
  have K1 := an_K a1 (by omega) K0
  have a2 := an_mk (t := 10) (N := 16) (j := 2) (show T < T + 2 by omega) a1.1
  have p2 := an_put (t := 10) (N := 16) (j := 2) (show T < T + 2 by omega) a1.1 K1
  generalize stR (alo g1 (10, 16)) T 2 (some (T + 2)) = g2 at a2 p2
  have K2 := an_K a2 (by omega) K1
  have u1 := a2.2.2.2.1
  have u0 := a1.2.2.2.1.trans u1 (by omega)
  have RT : hpR g2 T = up1 (up1 (fun _ => none) 1 (some (T + 1))) 2 (some (T + 2)) := by rw [a2.2.2.1, a1.2.2.1, R0]
  have II : hpI g2 T = hpI g0 T := (u0 T (by omega)).2.1
  refine ⟨g2, ?_, a2.1, ⟨K2, by rw [RT]; rfl, by rw [RT]; rfl, by rw [(u1 (T + 1) (by omega)).1]; exact a1.2.1, a2.2.1⟩, by rw [II]; exact i0.1, by rw [II]; exact i0.2, ?_⟩
  · unfold f_X5_init
    rw [putZ_ok (by rw [hpK_alo, if_pos eT.symm]) hh, Option.bind_some, e0, show newa g0 10 16 = _ from newa_ok (N := 16) (by omega), bnd_some, s0, p1, Option.bind_some, show newa g1 10 16 = _ from newa_ok (N := 16) (by omega), bnd_some, a1.1, p2, Option.bind_some]
  · intro a ha
    obtain ⟨b1, b2⟩ := (O0.trans (uo_ux u0) (by omega)) a ha
    obtain ⟨b3, b4, b5⟩ := b2 (by omega)
    exact ⟨b1, b3, b4, fun _ => b5⟩
theorem law_new (h : Hp) {k sg n : Nat} {num nar : Int32} (hn : n ≤ 6) : ∃ h', f_X1_init (hpS h) num (nI n) nar (some sg) (some k) (alo h (1, 0)) = some ((), h') ∧ hpS h' = hpS h + 10 ∧ LO h' (hpS h) k sg n ∧ hpI h' (hpS h) 0 = num ∧ hpI h' (hpS h) 1 = nI n ∧ hpI h' (hpS h) 2 = nar ∧ hpI h' (hpS h) 10 = 0 ∧ hpI h' (hpS h) 12 = 0 ∧ RN h' (hpS h + 6) 48 ∧ (∀ i, i < n → hpI h' (hpS h + 9) i = -1) ∧ Ux (fun _ => False) (hpS h) h h' := by
  generalize eT : hpS h = T
  generalize e0 : stR (stR (stI (stI (stI (alo h (1, 0)) T 0 num) T 1 (nI n)) T 2 nar) T 3 (some sg)) T 4 (some k) = g0
  have ka : hpK (alo h (1, 0)) T = some (1, 0) := by rw [hpK_alo, if_pos eT.symm]
  have K0 : hpK g0 T = some (1, 0) := by rw [← e0]; exact ka
  have s0 : hpS g0 = T + 1 := by rw [← e0]; show hpS h + 1 = _; omega
  have U0 : Ux (fun a => a = T) T h (alo h (1, 0)) := by have a : Ux (fun a => a = T) (hpS h) h (alo h (1, 0)) := ux_alo; rw [eT] at a; exact a
  have O0 : Uo T T h g0 := by rw [← e0]; exact (uo_ux U0).trans (((((uo_stI (q := T)).trans (uo_stI (q := T)) (by omega)).trans (uo_stI (q := T)) (by omega)).trans (uo_stR (q := T)) (by omega)).trans (uo_stR (q := T)) (by omega)) (by omega)
  have R0 : hpR g0 T = up1 (up1 (fun _ => none) 3 (some sg)) 4 (some k) := by
    rw [← e0, up_stR, up_stR]; congr 2; funext i; show hpR (alo h (1, 0)) T i = none; rw [hpR_alo, if_pos eT.symm]
  have i0 : hpI g0 T 0 = num ∧ hpI g0 T 1 = nI n ∧ hpI g0 T 2 = nar ∧ hpI g0 T 10 = 0 ∧ hpI g0 T 12 = 0 := by
    rw [← e0]
    show hpI (stI (stI (stI (alo h (1, 0)) T 0 num) T 1 (nI n)) T 2 nar) T 0 = num ∧ hpI (stI (stI (stI (alo h (1, 0)) T 0 num) T 1 (nI n)) T 2 nar) T 1 = nI n ∧ hpI (stI (stI (stI (alo h (1, 0)) T 0 num) T 1 (nI n)) T 2 nar) T 2 = nar ∧ hpI (stI (stI (stI (alo h (1, 0)) T 0 num) T 1 (nI n)) T 2 nar) T 10 = 0 ∧ hpI (stI (stI (stI (alo h (1, 0)) T 0 num) T 1 (nI n)) T 2 nar) T 12 = 0
    refine ⟨?_, ?_, hpI_stI_self _ _ _ _, ?_, ?_⟩
    · rw [hpI_stI_ne (Or.inr (by omega)), hpI_stI_ne (Or.inr (by omega)), hpI_stI_self]
    · rw [hpI_stI_ne (Or.inr (by omega)), hpI_stI_self]
    · rw [hpI_stI_ne (Or.inr (by omega)), hpI_stI_ne (Or.inr (by omega)), hpI_stI_ne (Or.inr (by omega)), hpI_alo, if_pos eT.symm]
    · rw [hpI_stI_ne (Or.inr (by omega)), hpI_stI_ne (Or.inr (by omega)), hpI_stI_ne (Or.inr (by omega)), hpI_alo, if_pos eT.symm]
  have a1 := an_mk (t := 11) (N := 48) (j := 5) (show T < T + 1 by omega) s0
  have p1 := an_put (t := 11) (N := 48) (j := 5) (show T < T + 1 by omega) s0 K0
  generalize stR (alo g0 (11, 48)) T 5 (some (T + 1)) = g1 at a1 p1
  have K1 := an_K a1 (by omega) K0
  have a2 := an_mk (t := 11) (N := 48) (j := 6) (show T < T + 2 by omega) a1.1
  have p2 := an_put (t := 11) (N := 48) (j := 6) (show T < T + 2 by omega) a1.1 K1
  generalize stR (alo g1 (11, 48)) T 6 (some (T + 2)) = g2 at a2 p2
  have K2 := an_K a2 (by omega) K1
  have a3 := an_mk (t := 11) (N := 48) (j := 7) (show T < T + 3 by omega) a2.1
  have p3 := an_put (t := 11) (N := 48) (j := 7) (show T < T + 3 by omega) a2.1 K2
  generalize stR (alo g2 (11, 48)) T 7 (some (T + 3)) = g3 at a3 p3
  have K3 := an_K a3 (by omega) K2
  have a4 := an_mk (t := 11) (N := 48) (j := 8) (show T < T + 4 by omega) a3.1
  have p4 := an_put (t := 11) (N := 48) (j := 8) (show T < T + 4 by omega) a3.1 K3
  generalize stR (alo g3 (11, 48)) T 8 (some (T + 4)) = g4 at a4 p4
  have K4 := an_K a4 (by omega) K3
  have a5 := an_mk (t := 10) (N := 48) (j := 9) (show T < T + 5 by omega) a4.1
  have p5 := an_put (t := 10) (N := 48) (j := 9) (show T < T + 5 by omega) a4.1 K4
  generalize stR (alo g4 (10, 48)) T 9 (some (T + 5)) = g5 at a5 p5
  have K5 := an_K a5 (by omega) K4
  obtain ⟨g6, f6, s6, w6, u6, -, z6⟩ := row_new g5 (N := 48) (by omega)
  rw [a5.1] at f6 s6 w6 u6 z6
  have Z6 := z6 (T + 6) (fun a h1 h2 => by omega)
  have k6 : hpK g6 T = some (1, 0) := by rw [(u6 T (by omega)).1]; exact K5
  generalize e7 : stR g6 T 13 (some (T + 6)) = g7
  have K7 : hpK g7 T = some (1, 0) := by rw [← e7]; exact k6
  have s7 : hpS g7 = T + 9 := by rw [← e7]; exact s6
  have w7 : RW g7 (T + 6) 48 := by rw [← e7]; exact rw_stR w6 (by rw [k6]; decide)
  have Z7 : Zr (T + 6) (T + 9) g7 := by rw [← e7]; exact zr_stR Z6
  have R7 : hpR g7 T = up1 (hpR g5 T) 13 (some (T + 6)) := by rw [← e7, up_stR, (u6 T (by omega)).2.2.2 (fun z => z)]
  have u7 : Ux (fun a => a = T) (T + 6) g5 g7 := by rw [← e7]; exact (u6.mono (fun _ _ z => z.elim)).trans (ux_stR (q := T + 6) rfl) (by omega)
  have a8 := an_mk (t := 11) (N := n) (j := 11) (show T < T + 9 by omega) s7
  have p8 := an_put (t := 11) (N := n) (j := 11) (show T < T + 9 by omega) s7 K7
  generalize stR (alo g7 (11, n)) T 11 (some (T + 9)) = g8 at a8 p8
  have K8 := an_K a8 (by omega) K7
  have R8 : hpR g8 T = up1 (up1 (up1 (up1 (up1 (up1 (up1 (up1 (up1 (fun _ => none) 3 (some sg)) 4 (some k)) 5 (some (T + 1))) 6 (some (T + 2))) 7 (some (T + 3))) 8 (some (T + 4))) 9 (some (T + 5))) 13 (some (T + 6))) 11 (some (T + 9)) := by
    rw [a8.2.2.1, R7, a5.2.2.1, a4.2.2.1, a3.2.2.1, a2.2.2.1, a1.2.2.1, R0]
  have u58 : Ux (fun a => a = T) (T + 6) g5 g8 := u7.trans a8.2.2.2.1 (by omega)
  have u48 : Ux (fun a => a = T) (T + 5) g4 g8 := a5.2.2.2.1.trans u58 (by omega)
  have u38 : Ux (fun a => a = T) (T + 4) g3 g8 := a4.2.2.2.1.trans u48 (by omega)
  have u28 : Ux (fun a => a = T) (T + 3) g2 g8 := a3.2.2.2.1.trans u38 (by omega)
  have u18 : Ux (fun a => a = T) (T + 2) g1 g8 := a2.2.2.2.1.trans u28 (by omega)
  have u08 : Ux (fun a => a = T) (T + 1) g0 g8 := a1.2.2.2.1.trans u18 (by omega)
  have II : hpI g8 T = hpI g0 T := (u08 T (by omega)).2.1
  have Z8 : Zr (T + 6) (T + 10) g8 := a8.2.2.2.2 (T + 6) Z7
  have LO8 : LO g8 T k sg n := ⟨K8, by rw [R8]; rfl, by rw [R8]; rfl, by rw [R8]; rfl, by rw [R8]; rfl, by rw [R8]; rfl, by rw [R8]; rfl, by rw [R8]; rfl, by rw [R8]; rfl, by rw [R8]; rfl, by rw [(u18 (T + 1) (by omega)).1]; exact a1.2.1, by rw [(u28 (T + 2) (by omega)).1]; exact a2.2.1, by rw [(u38 (T + 3) (by omega)).1]; exact a3.2.1, by rw [(u48 (T + 4) (by omega)).1]; exact a4.2.1, by rw [(u58 (T + 5) (by omega)).1]; exact a5.2.1, rw_ux a8.2.2.2.1 (by omega) (by omega) w7, a8.2.1⟩
  -- no sides yet
  obtain ⟨g9, f9, F9, v9⟩ := loop_rel (fun fuel i hh => f_X1_init_94 fuel (some T) (nI n) i hh) (fun i hh => Fr (fun a => a = T + 9) g8 hh ∧ ∀ j, j < i → hpI hh (T + 9) j = -1) (n := n) (res := fun hh => some ((), hh)) (by omega) (by
    rintro fuel i hi hin ⟨Fi, vi⟩
    have Li := fr_LO Fi LO8
    refine ⟨stI hi (T + 9) i (-1), ?_, fr_stI Fi rfl, fun j hj => ?_⟩
    · show f_X1_init_94 (fuel + 1) (some T) (nI n) (nI i) hi = f_X1_init_94 fuel (some T) (nI n) (nI (i + 1)) _
      rw [f_X1_init_94, if_neg (by rw [ni_le (by omega) (by omega)]; omega), lo_g11 Li, Option.bind_some, astI_ok Li.2.2.2.2.2.2.2.2.2.2.2.2.2.2.2.2 (ni_in hin (by omega)), ni_cl (by omega), Option.bind_some, li1, ni_add]
    · by_cases e : j = i
      · subst e; exact hpI_stI_self _ _ _ _
      · rw [hpI_stI_ne (Or.inr e)]; exact vi j (by omega)) (by
    rintro fuel hi -
    show f_X1_init_94 (fuel + 1) (some T) (nI n) (nI n) hi = _
    rw [f_X1_init_94, if_pos ((ni_le (by omega) (by omega)).mpr (Nat.le_refl _))]) g8 ⟨Fr.refl _ g8, fun j hj => by omega⟩
  have I9 : hpI g9 T = hpI g0 T := by rw [(F9.2.2.2 T (by omega)).1, II]
  refine ⟨g9, ?_, by rw [F9.1]; exact a8.1, fr_LO F9 LO8, by rw [I9]; exact i0.1, by rw [I9]; exact i0.2.1, by rw [I9]; exact i0.2.2.1, by rw [I9]; exact i0.2.2.2.1, by rw [I9]; exact i0.2.2.2.2, fr_RN F9 (by omega) (by omega) (zr_RN Z8 (by omega) (by omega)), v9, ?_⟩
  · unfold f_X1_init
    rw [putI_ok ka, Option.bind_some, putI_ok (show hpK (stI (alo h (1, 0)) T 0 num) T = some (1, 0) from ka), Option.bind_some, putI_ok (show hpK (stI (stI (alo h (1, 0)) T 0 num) T 1 (nI n)) T = some (1, 0) from ka), Option.bind_some, putR_ok (show hpK (stI (stI (stI (alo h (1, 0)) T 0 num) T 1 (nI n)) T 2 nar) T = some (1, 0) from ka), Option.bind_some, putR_ok (show hpK (stR (stI (stI (stI (alo h (1, 0)) T 0 num) T 1 (nI n)) T 2 nar) T 3 (some sg)) T = some (1, 0) from ka), Option.bind_some, e0]
    rw [show newa g0 11 48 = _ from newa_ok (N := 48) (by omega), bnd_some, s0, p1, Option.bind_some, show newa g1 11 48 = _ from newa_ok (N := 48) (by omega), bnd_some, a1.1, p2, Option.bind_some, show newa g2 11 48 = _ from newa_ok (N := 48) (by omega), bnd_some, a2.1, p3, Option.bind_some, show newa g3 11 48 = _ from newa_ok (N := 48) (by omega), bnd_some, a3.1, p4, Option.bind_some, show newa g4 10 48 = _ from newa_ok (N := 48) (by omega), bnd_some, a4.1, p5, Option.bind_some]
    show bnd (f_X3_init (hpS g5) 48 (alo g5 (3, 0))) _ = _
    rw [a5.1, show f_X3_init (T + 5 + 1) 48 (alo g5 (3, 0)) = _ from f6, bnd_some, putR_ok k6, Option.bind_some, e7, newa_ok (by omega), bnd_some, s7, p8, Option.bind_some]
    exact f9
  · intro a ha
    obtain ⟨b1, b2⟩ := (O0.trans (uo_ux u08) (by omega)) a ha
    obtain ⟨b3, b4, b5⟩ := b2 (by omega)
    have c := F9.2.2.2 a (by omega)
    exact ⟨by rw [F9.2.1]; exact b1, c.1.trans b3, c.2.trans b4, fun _ => by rw [F9.2.2.1]; exact b5⟩
