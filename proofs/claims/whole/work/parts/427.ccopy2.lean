/-! ===== a run is copied whole ===== -/
theorem c_runcopy {h : Hp} {r r' k : Nat} (D : RB h r' k) (S : RB h r k) (dj : r + 41 ≤ r' ∨ r' + 41 ≤ r) (n1 : RN h (r + 1) 6) (n2 : SN h (r + 12)) (n2' : SN h (r' + 12)) (h7 : hpI h r 7 = 0 ∨ hpI h r 7 = 1) :
    ∃ h', f_X4_copy r' (some r) h = some ((), h') ∧ RB h' r' k ∧ RN h' (r' + 1) 6 ∧ SN h' (r' + 12) ∧ hpR h' r' 0 = hpR h r 0 ∧ (∀ n A, n ≤ 6 → CR h r n A → CR h' r' n A) ∧ Fx (fun a => r' ≤ a ∧ a < r' + 41) (fun a => a = r' ∨ a = r' + 12) h h' := by
  have KD := D.1
  have KS := S.1
  have D1 : RB (stR h r' 0 (hpR h r 0)) r' k := rb_stR D (by rw [KD]; decide) (by rw [KD]; decide) (by rw [KD]; decide) (fun _ => rfl) (fun e => by omega)
  have S1 : RB (stR h r' 0 (hpR h r 0)) r k := rb_stR S (by rw [KD]; decide) (by rw [KD]; decide) (by rw [KD]; decide) (fun e => by omega) (fun e => by omega)
  generalize e1 : stR h r' 0 (hpR h r 0) = h1 at D1 S1
  have I1 : hpI h1 = hpI h := by rw [← e1]; rfl
  have D1D : hpD h1 = hpD h := by rw [← e1]; rfl
  -- time, then the states
  generalize e2 : stD h1 r' 1 (hpD h r 1) = h2
  have F2 : Fr (fun a => a = r') h1 h2 := by rw [← e2]; exact fr_stD (Fr.refl _ h1) rfl
  have D2 := fr_RB F2 D1
  have S2 := fr_RB F2 S1
  have n12 : RN h2 (r + 1) 6 := fr_RN F2 (by omega) (by omega) (fun i hi => by rw [I1, D1D]; exact n1 i hi)
  have rv2 : RV h2 (r + 1) = RV h (r + 1) := by
    rw [fr_RV F2 (by omega) (by omega)]; funext i; unfold RV; rw [I1, D1D]
  have cp := c_copy (rb_rw D2) (rb_rw S2) (by omega) n12 (by omega) (by omega)
  generalize e3 : cpV h2 (r' + 1) (r + 1) 6 = h3 at cp
  have F3 : Fr (fun a => a = r' + 2 ∨ a = r' + 3) h2 h3 := by rw [← e3]; exact fr_cpV (Fr.refl _ h2) (by omega) (by omega)
  have n13 : RN h3 (r' + 1) 6 := by rw [← e3]; exact RN_cpV n12
  have v3 : ∀ i, i < 6 → RV h3 (r' + 1) i = RV h (r + 1) i := fun i hi => by rw [← e3, RV_cpV hi, rv2]
  have D3 := fr_RB F3 D2
  have S3 := fr_RB F3 S2
  have o3 : ∀ o, o < 41 → hpI h3 (r + o) = hpI h (r + o) ∧ hpD h3 (r + o) = hpD h (r + o) := fun o ho => by
    have a := F3.2.2.2 (r + o) (by omega)
    have b := F2.2.2.2 (r + o) (by omega)
    exact ⟨by rw [a.1, b.1, I1], by rw [a.2, b.2, D1D]⟩
  have o3I : hpI h3 r = hpI h r := (o3 0 (by omega)).1
  have o3D : hpD h3 r = hpD h r := (o3 0 (by omega)).2
  -- the fields
  generalize e4 : stI (stI (stI (stD (stD (stD (stI h3 r' 3 (hpI h r 3)) r' 4 (hpD h r 4)) r' 5 (hpD h r 5)) r' 6 (hpD h r 6)) r' 7 (hpI h r 7)) r' 8 (hpI h r 8)) r' 9 (hpI h r 9) = h4
  have F4 : Fr (fun a => a = r') h3 h4 := by rw [← e4]; exact fr_stI (fr_stI (fr_stI (fr_stD (fr_stD (fr_stD (fr_stI (Fr.refl _ h3) rfl) rfl) rfl) rfl) rfl) rfl) rfl
  have D4 := fr_RB F4 D3
  have S4 := fr_RB F4 S3
  have t1 : hpD h3 r' 1 = hpD h r 1 := by rw [(F3.2.2.2 r' (by omega)).2, ← e2, hpD_stD_self]
  have d4 : hpD h4 r' 1 = hpD h r 1 ∧ hpD h4 r' 4 = hpD h r 4 ∧ hpD h4 r' 5 = hpD h r 5 ∧ hpD h4 r' 6 = hpD h r 6 := by
    rw [← e4]
    show hpD (stD (stD (stD (stI h3 r' 3 (hpI h r 3)) r' 4 (hpD h r 4)) r' 5 (hpD h r 5)) r' 6 (hpD h r 6)) r' 1 = _ ∧ hpD (stD (stD (stD (stI h3 r' 3 (hpI h r 3)) r' 4 (hpD h r 4)) r' 5 (hpD h r 5)) r' 6 (hpD h r 6)) r' 4 = _ ∧ hpD (stD (stD (stD (stI h3 r' 3 (hpI h r 3)) r' 4 (hpD h r 4)) r' 5 (hpD h r 5)) r' 6 (hpD h r 6)) r' 5 = _ ∧ hpD (stD (stD (stD (stI h3 r' 3 (hpI h r 3)) r' 4 (hpD h r 4)) r' 5 (hpD h r 5)) r' 6 (hpD h r 6)) r' 6 = _
    refine ⟨?_, ?_, ?_, hpD_stD_self _ _ _ _⟩
    · rw [hpD_stD_ne (Or.inr (by omega)), hpD_stD_ne (Or.inr (by omega)), hpD_stD_ne (Or.inr (by omega))]; exact t1
    · rw [hpD_stD_ne (Or.inr (by omega)), hpD_stD_ne (Or.inr (by omega)), hpD_stD_self]
    · rw [hpD_stD_ne (Or.inr (by omega)), hpD_stD_self]
  have i4' : hpI h4 r' 3 = hpI h r 3 ∧ hpI h4 r' 7 = hpI h r 7 ∧ hpI h4 r' 8 = hpI h r 8 ∧ hpI h4 r' 9 = hpI h r 9 := by
    rw [← e4]
    refine ⟨?_, ?_, ?_, hpI_stI_self _ _ _ _⟩
    · rw [hpI_stI_ne (Or.inr (by omega)), hpI_stI_ne (Or.inr (by omega)), hpI_stI_ne (Or.inr (by omega)), hpI_stD, hpI_stD, hpI_stD, hpI_stI_self]
    · rw [hpI_stI_ne (Or.inr (by omega)), hpI_stI_ne (Or.inr (by omega)), hpI_stI_self]
    · rw [hpI_stI_ne (Or.inr (by omega)), hpI_stI_self]
  have o4 : ∀ o, o < 41 → hpI h4 (r + o) = hpI h (r + o) ∧ hpD h4 (r + o) = hpD h (r + o) := fun o ho => by
    have a := F4.2.2.2 (r + o) (by omega)
    exact ⟨by rw [a.1]; exact (o3 o ho).1, by rw [a.2]; exact (o3 o ho).2⟩
  -- the events
  obtain ⟨h5, e5, F5, w0, w6, wo, wf⟩ := c_evcopy D4 S4 dj
  have D5 := fr_RB F5 D4
  have S5 := fr_RB F5 S4
  have o5 : ∀ o, o < 41 → hpI h5 (r + o) = hpI h (r + o) ∧ hpD h5 (r + o) = hpD h (r + o) := fun o ho => by
    have a := F5.2.2.2 (r + o) (by omega)
    exact ⟨by rw [a.1]; exact (o4 o ho).1, by rw [a.2]; exact (o4 o ho).2⟩
  have n25 : SN h5 (r + 12) := fun q hq i hi => by
    have hl := isr_le hq
    have a1 := (o5 (12 + q + 1) (by omega)).2
    have a2 := (o5 (12 + q + 2) (by omega)).1
    rw [show r + 12 + q + 1 = r + (12 + q + 1) by omega, show r + 12 + q + 2 = r + (12 + q + 2) by omega, a1, a2]
    have := n2 q hq i hi
    rw [show r + 12 + q + 1 = r + (12 + q + 1) by omega, show r + 12 + q + 2 = r + (12 + q + 2) by omega] at this
    exact this
  have n25' : SN h5 (r' + 12) := fun q hq => by
    have hl := isr_le hq
    refine fr_RN F5 (by omega) (by omega) (fr_RN F4 (by omega) (by omega) (fr_RN F3 (by omega) (by omega) (fr_RN F2 (by omega) (by omega) (fun i hi => ?_))))
    rw [I1, D1D]; exact n2' q hq i hi
  obtain ⟨h6, e6, F6, N6, SC6⟩ := c_stepcopy (rb_s0 D5) (rb_s0 S5) (by omega) n25' n25 (k' := 0)
  have R5 : hpR h5 = hpR h1 := by rw [F5.2.2.1, F4.2.2.1, F3.2.2.1, F2.2.2.1]
  have D6s : RB (stR h5 (r' + 12) 1 (hpR h5 (r + 12) 1)) r' k := rb_stR D5 (by rw [(rb_s0 D5).1]; decide) (by rw [(rb_s0 D5).1]; decide) (by rw [(rb_s0 D5).1]; decide) (fun e => by omega) (fun _ => rfl)
  have D6 := fr_RB F6 D6s
  have fx6 : Fx (fun a => r' ≤ a ∧ a < r' + 41) (fun a => a = r' ∨ a = r' + 12) h h6 := by
    have a1 : Fx (fun a => r' ≤ a ∧ a < r' + 41) (fun a => a = r' ∨ a = r' + 12) h h1 := by rw [← e1]; exact fx_stR (Or.inl rfl)
    have a2 : Fx (fun a => r' ≤ a ∧ a < r' + 41) (fun a => a = r' ∨ a = r' + 12) h1 h5 := ((F2.mono (fun a e => by omega)).trans ((F3.mono (fun a e => by omega)).trans ((F4.mono (fun a e => by omega)).trans (F5.mono (fun a e => by omega))))).fx
    have a3 : Fx (fun a => r' ≤ a ∧ a < r' + 41) (fun a => a = r' ∨ a = r' + 12) h5 (stR h5 (r' + 12) 1 (hpR h5 (r + 12) 1)) := fx_stR (Or.inr rfl)
    exact a1.trans (a2.trans (a3.trans (F6.mono (fun a e => by omega)).fx))
  have R60 : hpR h6 r' 0 = hpR h r 0 := by
    rw [F6.2.2.1, hpR_stR, if_neg (by omega), R5, ← e1, hpR_stR, if_pos rfl, if_pos rfl]
  have R61 : hpR h6 (r' + 12) 1 = hpR h (r + 12) 1 := by
    rw [F6.2.2.1, hpR_stR, if_pos rfl, if_pos rfl, R5, ← e1, hpR_stR, if_neg (by omega)]
  have o6 : ∀ o, o < 12 → hpI h6 (r' + o) = hpI h5 (r' + o) ∧ hpD h6 (r' + o) = hpD h5 (r' + o) := fun o ho => F6.2.2.2 (r' + o) (by omega)
  have o54 : ∀ o, o < 4 → hpI h5 (r' + o) = hpI h4 (r' + o) ∧ hpD h5 (r' + o) = hpD h4 (r' + o) := fun o ho => F5.2.2.2 (r' + o) (by omega)
  have g0I : hpI h6 r' = hpI h4 r' := ((o6 0 (by omega)).1).trans (o54 0 (by omega)).1
  have g0D : hpD h6 r' = hpD h4 r' := ((o6 0 (by omega)).2).trans (o54 0 (by omega)).2
  have rv6 : ∀ i, i < 6 → RV h6 (r' + 1) i = RV h (r + 1) i := fun i hi => by
    rw [fr_RV F6 (by omega) (by omega)]
    show RV h5 (r' + 1) i = _
    rw [fr_RV F5 (by omega) (by omega), fr_RV F4 (by omega) (by omega)]
    exact v3 i hi
  obtain ⟨x2, x13, x3, x4, x5, x12, xr⟩ := SC6
  have s5I : hpI h5 (r + 12) = hpI h (r + 12) := (o5 12 (by omega)).1
  have s5D : hpD h5 (r + 12) = hpD h (r + 12) := (o5 12 (by omega)).2
  have rvs : ∀ q, IsR q → RV h5 (r + 12 + q) = RV h (r + 12 + q) := fun q hq => by
    have hl := isr_le hq
    funext i
    unfold RV
    rw [show r + 12 + q + 1 = r + (12 + q + 1) by omega, show r + 12 + q + 2 = r + (12 + q + 2) by omega, (o5 (12 + q + 1) (by omega)).2, (o5 (12 + q + 2) (by omega)).1]
  have xr' : ∀ q, IsR q → q ≠ 4 → ∀ i, i < 6 → RV h6 (r' + 12 + q) i = RV h (r + 12 + q) i := fun q hq h4 i hi => by rw [xr q hq h4 i hi, rvs q hq]
  refine ⟨h6, ?_, D6, ?_, N6, R60, fun n A hn C => ?_, fx6⟩
  · unfold f_X4_copy
    have K1' := D1.1
    have K1 := S1.1
    have gD : ∀ (hh : Hp) (j : Nat), hpK hh r = some (4, 0) → hpD hh r = hpD h r → getD hh (some r) 4 j = some (hpD h r j) := fun hh j q1 q2 => by rw [getD_ok q1, q2]
    have gI : ∀ (hh : Hp) (j : Nat), hpK hh r = some (4, 0) → hpI hh r = hpI h r → getI hh (some r) 4 j = some (hpI h r j) := fun hh j q1 q2 => by rw [getI_ok q1, q2]
    have nr : r ≠ r' := by omega
    have qD : ∀ (hh : Hp) (j : Nat) (v : UInt64), hpD hh r = hpD h r → hpD (stD hh r' j v) r = hpD h r := fun hh j v q => by rw [hpD_stD_row nr]; exact q
    have qI : ∀ (hh : Hp) (j : Nat) (v : Int32), hpI hh r = hpI h r → hpI (stI hh r' j v) r = hpI h r := fun hh j v q => by rw [hpI_stI_row nr]; exact q
    have K3 := S3.1
    have K3' := D3.1
    have a0 : getR h (some r) 4 0 = some (hpR h r 0) := getR_ok KS
    rw [a0, Option.bind_some, putR_ok KD, Option.bind_some, e1, gD h1 1 K1 (by rw [D1D]), Option.bind_some, putD_ok K1', Option.bind_some, e2, rb_g2 D2, Option.bind_some, rb_g2 S2, Option.bind_some, rw_ck (rb_rw D2), Option.bind_some, cp, bnd_some]
    rw [gI h3 3 K3 o3I, Option.bind_some, putI_ok K3', Option.bind_some]
    rw [gD (stI h3 r' 3 (hpI h r 3)) 4 K3 o3D, Option.bind_some, putD_ok (show hpK (stI h3 r' 3 (hpI h r 3)) r' = some (4, 0) from K3'), Option.bind_some]
    generalize q1 : stD (stI h3 r' 3 (hpI h r 3)) r' 4 (hpD h r 4) = u1 at e4 ⊢
    have U1 : hpK u1 = hpK h3 ∧ hpD u1 r = hpD h r ∧ hpI u1 r = hpI h r := by rw [← q1]; exact ⟨rfl, qD _ _ _ o3D, by rw [hpI_stD]; exact qI _ _ _ o3I⟩
    rw [gD u1 5 (by rw [U1.1]; exact K3) U1.2.1, Option.bind_some, putD_ok (by rw [U1.1]; exact K3'), Option.bind_some]
    generalize q2 : stD u1 r' 5 (hpD h r 5) = u2 at e4 ⊢
    have U2 : hpK u2 = hpK h3 ∧ hpD u2 r = hpD h r ∧ hpI u2 r = hpI h r := by rw [← q2]; exact ⟨U1.1, qD _ _ _ U1.2.1, U1.2.2⟩
    rw [gD u2 6 (by rw [U2.1]; exact K3) U2.2.1, Option.bind_some, putD_ok (by rw [U2.1]; exact K3'), Option.bind_some]
    generalize q3 : stD u2 r' 6 (hpD h r 6) = u3 at e4 ⊢
    have U3 : hpK u3 = hpK h3 ∧ hpD u3 r = hpD h r ∧ hpI u3 r = hpI h r := by rw [← q3]; exact ⟨U2.1, qD _ _ _ U2.2.1, U2.2.2⟩
    rw [gI u3 7 (by rw [U3.1]; exact K3) U3.2.2, Option.bind_some, putZ_ok (by rw [U3.1]; exact K3') h7, Option.bind_some]
    generalize q4 : stI u3 r' 7 (hpI h r 7) = u4 at e4 ⊢
    have U4 : hpK u4 = hpK h3 ∧ hpI u4 r = hpI h r := by rw [← q4]; exact ⟨U3.1, qI _ _ _ U3.2.2⟩
    rw [gI u4 8 (by rw [U4.1]; exact K3) U4.2, Option.bind_some, putI_ok (by rw [U4.1]; exact K3'), Option.bind_some]
    generalize q5 : stI u4 r' 8 (hpI h r 8) = u5 at e4 ⊢
    have U5 : hpK u5 = hpK h3 ∧ hpI u5 r = hpI h r := by rw [← q5]; exact ⟨U4.1, qI _ _ _ U4.2⟩
    rw [gI u5 9 (by rw [U5.1]; exact K3) U5.2, Option.bind_some, putI_ok (by rw [U5.1]; exact K3'), Option.bind_some, e4, rb_g10 D4, Option.bind_some, rb_g10 S4, Option.bind_some, rb_ec D4, Option.bind_some, e5, bnd_some, rb_g11 D5, Option.bind_some, rb_g11 S5, Option.bind_some, ck_ok (rb_s0 D5).1, Option.bind_some, e6, bnd_some]
  · refine fr_RN F6 (by omega) (by omega) ?_
    show RN h5 (r' + 1) 6
    exact fr_RN F5 (by omega) (by omega) (fr_RN F4 (by omega) (by omega) n13)
  · obtain ⟨c1, c2', c3, c4, c5, c6, c7, c8, c9, c10, c11, c12, c13, c14, c15, c16, c17⟩ := C
    refine ⟨by rw [g0D, d4.1]; exact c1, by rw [g0I, i4'.1]; exact c2', by rw [g0D, d4.2.1]; exact c3, by rw [g0D, d4.2.2.1]; exact c4, by rw [g0D, d4.2.2.2]; exact c5, by rw [g0I, i4'.2.1]; exact c6, by rw [g0I, i4'.2.2.1]; exact c7, by rw [g0I, i4'.2.2.2]; exact c8, fun i hi => by rw [rv6 i (by omega)]; exact c9 i hi, by rw [(o6 4 (by omega)).1, w0, (o4 4 (by omega)).1]; exact c10, by rw [(o6 4 (by omega)).1, w6, (o4 4 (by omega)).1]; exact c11, fun j hj => ?_, fun j hj => ?_, by rw [x12, s5D]; exact c14, by rw [x13, s5I]; exact c15, by rw [x4, s5D]; exact c16, fun st => ?_⟩
    · rw [(o6 5 (by omega)).1, (o6 6 (by omega)).1, (o6 7 (by omega)).1, (o6 8 (by omega)).1, wo 5 (by omega) (by omega) j hj, wo 6 (by omega) (by omega) j hj, wo 7 (by omega) (by omega) j hj, wo 8 (by omega) (by omega) j hj, (o4 5 (by omega)).1, (o4 6 (by omega)).1, (o4 7 (by omega)).1, (o4 8 (by omega)).1]; exact c12 j hj
    · rw [(o6 10 (by omega)).1, (o6 11 (by omega)).2, (wf j hj).1, (wf j hj).2, (o4 10 (by omega)).1, (o4 11 (by omega)).2]; exact c13 j hj
    · obtain ⟨d1, d2, d3, d4', d5, d6⟩ := c17 st
      refine ⟨by rw [R60, R61]; exact d1, by rw [x2, s5I]; exact d2, ⟨by rw [x3, s5D]; exact d3.1, by rw [x4, s5D]; exact d3.2.1, fun i hi => by rw [xr' 1 i1 (by omega) i (by omega), xr' 7 i7 (by omega) i (by omega), xr' 11 i11 (by omega) i (by omega), xr' 26 i26 (by omega) i (by omega)]; exact d3.2.2 i hi⟩, by rw [x5, s5D]; exact d4', fun j hj i hi => by rw [xr' (11 + 3 * j) (isr_k (by have := sgN_le (tc (A.1 36 0)); omega)) (by omega) i (by omega)]; exact d5 j hj i hi, fun e i hi => by rw [xr' 23 i23 (by omega) i (by omega)]; exact d6 e i hi⟩
