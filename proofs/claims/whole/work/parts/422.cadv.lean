/-! ===== the class advances a run ===== -/
theorem cl_le_n {a b : UInt64} (ha : Nm a) (hb : Nm b) : cl a b ≤ 0 ↔ ky a ≤ ky b := by
  rw [cl_le]; exact ⟨fun z => z.elim (fun w => absurd ⟨ha, hb⟩ w) id, Or.inr⟩
theorem cg_ge_n {a b : UInt64} (ha : Nm a) (hb : Nm b) : 0 ≤ cg a b ↔ ky b ≤ ky a := by
  rw [cg_ge]; exact ⟨fun z => z.elim (fun w => absurd ⟨ha, hb⟩ w) id, Or.inr⟩
theorem cg_gt_n {a b : UInt64} (ha : Nm a) (hb : Nm b) : 0 < cg a b ↔ ky b < ky a := by
  rw [cg_gt]; exact ⟨fun z => z.elim (fun w => absurd ⟨ha, hb⟩ w) id, Or.inr⟩
theorem nm_1024 : Nm 4652218415073722368 := nm_c ky_1024 (by decide)
theorem nm_1024n : Nm 13875590451928498176 := nm_c ky_1024n (by decide)
theorem c_grown {hh off : UInt64} (fh : HB hh) (h : Hp) : f_X8_grown hh off h = some (lgS hh off, h) := by
  have m2 : Nm (FP.dmul hh 4611686018427387904) := mul_nm fh.fn fn_c2
  have m4 : Nm (FP.dmul hh 4616189618054758400) := mul_nm fh.fn fn_c4
  have tail : ∀ v : UInt64, Nm v → lg0 hh off = v → f_X8_grown_36 v h = some (lgS hh off, h) := fun v nv e => by
    unfold f_X8_grown_36 f_X8_grown_66 lgS
    rw [e]
    have kk := ky_mk v
    have k1 := ky_1024
    have k2 := ky_1024n
    have c1 : cl v 4652218415073722368 ≤ 0 ↔ ky v ≤ 4652218415073722368 := by rw [cl_le_n nv nm_1024, k1]
    have c2 : 0 ≤ cg v 13875590451928498176 ↔ -4652218415073722368 ≤ ky v := by rw [cg_ge_n nv nm_1024n, k2]
    have c3 : cl (mk v) 4652218415073722368 ≤ 0 ↔ (ky v).natAbs ≤ 4652218415073722368 := by rw [cl_le_n (nm_mk.mpr nv) nm_1024, k1, kk]; omega
    have c4 : 0 ≤ cg v FP.dconst0 ↔ 0 ≤ ky v := by rw [cg_ge_n nv nm_0, ky_0]
    by_cases p1 : ky v ≤ 4652218415073722368
    · rw [if_pos (c1.mpr p1)]
      by_cases p2 : -4652218415073722368 ≤ ky v
      · rw [if_pos (c2.mpr p2), if_pos (c3.mpr (by omega))]
      · rw [if_neg (fun z => p2 (c2.mp z)), if_neg (fun z => by have := c3.mp z; omega), if_neg (fun z => by have := c4.mp z; omega)]
    · rw [if_neg (fun z => p1 (c1.mp z)), if_neg (fun z => by have := c3.mp z; omega), if_pos (c4.mpr (by omega))]
  unfold f_X8_grown
  by_cases q1 : 0 < cg off 4580160821035794432
  · rw [if_pos q1]
    by_cases q2 : 0 < cg off 4593671619917905920
    · rw [if_pos q2]; exact tail hh fh.fn.nm (by unfold lg0; rw [if_pos q1, if_pos q2])
    · rw [if_neg q2, fop_ok m2, Option.bind_some]; exact tail _ m2 (by unfold lg0; rw [if_pos q1, if_neg q2])
  · rw [if_neg q1, fop_ok m4, Option.bind_some]; exact tail _ m4 (by unfold lg0; rw [if_neg q1])
/-- the class's own object -/
def XO (h : Hp) (c : Nat) : Prop := hpK h c = some (8, 0) ∧ hpR h c 0 = some (c + 1) ∧ hpR h c 1 = some (c + 2) ∧ hpR h c 2 = some (c + 4) ∧ hpR h c 4 = some (c + 5) ∧ hpR h c 6 = some (c + 6) ∧ hpR h c 8 = some (c + 7) ∧ hpR h c 9 = some (c + 8) ∧ hpR h c 10 = some (c + 37) ∧ hpK h (c + 4) = some (13, 8) ∧ hpK h (c + 5) = some (16, 8) ∧ hpK h (c + 6) = some (15, 4) ∧ hpK h (c + 7) = some (15, 5) ∧ hpK h (c + 2) = some (7, 0) ∧ hpR h (c + 2) 0 = some (c + 3) ∧ hpK h (c + 3) = some (10, 10) ∧ c + 124 ≤ hpS h
theorem xo_ck {h : Hp} {c : Nat} (X : XO h c) : ab_ck h (some c) (8, 0) = some c := ck_ok X.1
theorem xo_g9 {h : Hp} {c : Nat} (X : XO h c) : getR h (some c) 8 9 = some (some (c + 8)) := by rw [getR_ok X.1, X.2.2.2.2.2.2.2.1]
def Fx (P Q : Nat → Prop) (h0 h : Hp) : Prop := hpS h = hpS h0 ∧ hpK h = hpK h0 ∧ (∀ a, ¬ Q a → hpR h a = hpR h0 a) ∧ ∀ a, ¬ P a → hpI h a = hpI h0 a ∧ hpD h a = hpD h0 a
theorem Fx.refl (P Q : Nat → Prop) (h : Hp) : Fx P Q h h := ⟨rfl, rfl, fun _ _ => rfl, fun _ _ => ⟨rfl, rfl⟩⟩
theorem Fx.trans {P Q : Nat → Prop} {h0 h1 h2 : Hp} (a : Fx P Q h0 h1) (b : Fx P Q h1 h2) : Fx P Q h0 h2 :=
  ⟨b.1.trans a.1, b.2.1.trans a.2.1, fun q hq => (b.2.2.1 q hq).trans (a.2.2.1 q hq), fun q hq => ⟨(b.2.2.2 q hq).1.trans (a.2.2.2 q hq).1, (b.2.2.2 q hq).2.trans (a.2.2.2 q hq).2⟩⟩
theorem Fx.mono {P Q P' Q' : Nat → Prop} {h0 h : Hp} (F : Fx P Q h0 h) (hp : ∀ a, P a → P' a) (hq : ∀ a, Q a → Q' a) : Fx P' Q' h0 h := ⟨F.1, F.2.1, fun a ha => F.2.2.1 a (fun z => ha (hq a z)), fun a ha => F.2.2.2 a (fun z => ha (hp a z))⟩
theorem Fr.fx {P Q : Nat → Prop} {h0 h : Hp} (F : Fr P h0 h) : Fx P Q h0 h := ⟨F.1, F.2.1, fun a _ => by rw [F.2.2.1], F.2.2.2⟩
theorem fx_stR {P Q : Nat → Prop} {h : Hp} {b j : Nat} {v : Option Nat} (hb : Q b) : Fx P Q h (stR h b j v) :=
  ⟨rfl, rfl, fun a ha => by funext q; rw [hpR_stR, if_neg (fun e => ha (by rw [e]; exact hb))], fun _ _ => ⟨rfl, rfl⟩⟩
theorem xo_fx {P Q : Nat → Prop} {h0 h : Hp} {c : Nat} (F : Fx P Q h0 h) (q1 : ¬ Q c) (q2 : ¬ Q (c + 2)) (X : XO h0 c) : XO h c := by
  unfold XO; rw [F.1, F.2.1, F.2.2.1 _ q1, F.2.2.1 _ q2]; exact X
theorem tkS_df {A : RecT} {F : FT} {nar : Int32} {n M no : Nat} {hf off endv : UInt64} {isCut : Bool} {o : Nat} (h : o ≠ 24 ∧ o ≠ 25 ∧ o ≠ 28 ∧ o ≠ 29 ∧ o ≠ 37 ∧ o ≠ 38 ∧ o ≠ 39 ∧ o ≠ 40 ∧ o ≠ 41 ∧ o ≠ 42 ∧ o ≠ 100 ∧ o ≠ 101 ∧ o ≠ 102 ∧ o ≠ 103 ∧ o ≠ 104) : (tkS A F nar n M no hf off isCut endv).2 o = A.2 o := by
  obtain ⟨h1, h2, h3, h4, h5, h6, h7, h8, h9, h10, h11, h12, h13, h14, h15⟩ := h
  unfold tkS
  dsimp only
  split <;> first | rfl | omega
theorem tkS_e {A : RecT} {F : FT} {nar : Int32} {n M no : Nat} {hf off endv endv' : UInt64} {isCut isCut' : Bool} {o : Nat} (h1 : o ≠ 24) (h2 : o ≠ 25) : (tkS A F nar n M no hf off isCut endv).2 o = (tkS A F nar n M no hf off isCut' endv').2 o := by
  rcases (by omega : o = 28 ∨ o = 29 ∨ o = 37 ∨ o = 38 ∨ o = 39 ∨ o = 40 ∨ o = 41 ∨ o = 42 ∨ o = 100 ∨ o = 101 ∨ o = 102 ∨ o = 103 ∨ o = 104 ∨ (o ≠ 24 ∧ o ≠ 25 ∧ o ≠ 28 ∧ o ≠ 29 ∧ o ≠ 37 ∧ o ≠ 38 ∧ o ≠ 39 ∧ o ≠ 40 ∧ o ≠ 41 ∧ o ≠ 42 ∧ o ≠ 100 ∧ o ≠ 101 ∧ o ≠ 102 ∧ o ≠ 103 ∧ o ≠ 104)) with rfl | rfl | rfl | rfl | rfl | rfl | rfl | rfl | rfl | rfl | rfl | rfl | rfl | h
  all_goals first | rfl | rw [tkS_df h, tkS_df h]
theorem c_finish {h : Hp} {c m l n ns N L r M no : Nat} {A : RecT} {hf off endv : UInt64} {cut : Int32} (X : XO h c) (hc : c + 66 ≤ m) (W : WR h m l n ns N (c + 1) L (c + 5) r) (C : CR h r n A) (S : ST h (c + 8) (c + 1) L) (sT : SN h (c + 8)) (hM : A.1 15 0 = nI M) (hM6 : M ≤ 6) (hno : no < 1000) (fh : HB hf) (nt : Nm (A.2 24 0)) (sd : SD h (c + 8) n M (fR h m l N) (hpI h (m + 2) l) (A.2 24 0) hf (A.2 29)) (eo : hpD h (c + 8) 12 = off) (hl : M ≠ 4 → ¬ (cut ≠ 0 ∧ no = 0) → hf = A.2 25 0) :
    ∃ h', f_X8_finish c (some r) (nI no) cut endv h = some ((), h') ∧ WR h' m l n ns N (c + 1) L (c + 5) r ∧ CR h' r n (tkS A (fR h m l N) (hpI h (m + 2) l) n M no hf off (decide (cut ≠ 0 ∧ no = 0)) endv) ∧ Fr (PR (c + 1) L r) (stR h (r + 12) 1 (some L)) h' := by
  have s := W.2.2.2.2.1
  have s1 := s.1
  have s2 := s.2.1
  have p1 := W.1.2.2.2.2.2.2.2.1
  have p2 := W.1.2.2.2.2.2.2.2.2.1
  obtain ⟨h3, e3, W3, C3, F3⟩ := c_take (no := no) W C S sT (by omega) hM hM6 (add_nm2 nt fh.fn) sd eo
  have B3 := W3.2.1
  have nT : ¬ PR (c + 1) L r (c + 8) := by rintro (z | z); rcases z with z | z | z <;> omega; omega
  have T3D : hpD h3 (c + 8) = hpD h (c + 8) := (F3.2.2.2 _ nT).2
  have X3 : XO h3 c := xo_fx (P := fun _ => True) (Q := fun a => a = r + 12) (Fx.trans (h1 := stR h (r + 12) 1 (some L)) (fx_stR rfl) (F3.mono (fun _ _ => trivial)).fx) (by omega) (by omega) X
  have S3K : hpK h3 (c + 8) = some (6, 0) := by rw [F3.2.1]; exact S.1
  have m3 : hpI h3 r 3 = nI M := by rw [(cr_h C3).2.1, ← hM]; rfl
  have g4 : getD h3 (some (c + 8)) 6 4 = some hf := by rw [getD_ok S3K, T3D, sd.2.2.1]
  have g12 : getD h3 (some (c + 8)) 6 12 = some off := by rw [getD_ok S3K, T3D, eo]
  have own : ∀ (h4 : Hp) (F4 : Fr (fun a => a = r) h3 h4), WR h4 m l n ns N (c + 1) L (c + 5) r ∧ Fr (PR (c + 1) L r) (stR h (r + 12) 1 (some L)) h4 := fun h4 F4 => by
    obtain ⟨W4, G4⟩ := wr_own W3 (F4.mono (fun a e => Or.inl e)) (fr_RN F4 (by omega) (by omega) W3.2.2.1)
    exact ⟨W4, F3.trans G4⟩
  have len : ∀ v : UInt64, (tkS A (fR h m l N) (hpI h (m + 2) l) n M no hf off (decide (cut ≠ 0 ∧ no = 0)) endv).2 25 0 = v → ¬ (cut ≠ 0 ∧ no = 0) → ∃ h', f_X8_finish_66 v (some r) h3 = some ((), h') ∧ WR h' m l n ns N (c + 1) L (c + 5) r ∧ CR h' r n (tkS A (fR h m l N) (hpI h (m + 2) l) n M no hf off (decide (cut ≠ 0 ∧ no = 0)) endv) ∧ Fr (PR (c + 1) L r) (stR h (r + 12) 1 (some L)) h' := fun v e25 nc => by
    have F4 : Fr (fun a => a = r) h3 (stD h3 r 4 v) := fr_stD (Fr.refl _ h3) rfl
    obtain ⟨W4, G4⟩ := own _ F4
    refine ⟨_, ?_, W4, cr_head C3 (F4.mono (fun a e => Or.inl e)) (fun o _ _ _ _ => rfl) (fun o h24 h25 _ _ _ => tkS_e h24 h25) ?_ (fun i hi => ?_), G4⟩
    · unfold f_X8_finish_66 f_X8_finish_69
      rw [putD_ok B3.1, Option.bind_some]
    · obtain ⟨e1, e2, e3', e4, e5, e6, e7, e8⟩ := cr_h C3
      have q : ∀ j, j ≠ 4 → hpD (stD h3 r 4 v) r j = hpD h3 r j := fun j hj => hpD_stD_ne (Or.inr hj)
      refine ⟨?_, e2, by rw [hpD_stD_self, e25], by rw [q 5 (by omega)]; exact e4, by rw [q 6 (by omega)]; exact e5, e6, e7, e8⟩
      rw [q 1 (by omega), e1]
      show FP.dadd (A.2 24 0) hf = (if decide (cut ≠ 0 ∧ no = 0) = true then endv else FP.dadd (A.2 24 0) hf)
      rw [if_neg (by rw [decide_eq_true_eq]; exact nc)]
    · rw [fr_RV F4 (by omega) (by omega)]; exact cr_x C3 i hi
  have f26 : ¬ (cut ≠ 0 ∧ no = 0) → ∃ h', f_X8_finish_26 (some c) (some r) (nI no) h3 = some ((), h') ∧ WR h' m l n ns N (c + 1) L (c + 5) r ∧ CR h' r n (tkS A (fR h m l N) (hpI h (m + 2) l) n M no hf off (decide (cut ≠ 0 ∧ no = 0)) endv) ∧ Fr (PR (c + 1) L r) (stR h (r + 12) 1 (some L)) h' := fun nc => by
    unfold f_X8_finish_26
    rw [rb_gi B3, Option.bind_some, m3]
    have nd : ¬ decide (cut ≠ 0 ∧ no = 0) = true := by rw [decide_eq_true_eq]; exact nc
    by_cases q4 : M = 4
    · rw [if_neg (fun z => z (by rw [q4]; rfl))]
      by_cases q0 : no = 0
      · rw [if_neg (fun z => z (by rw [q0]; rfl)), xo_g9 X3, Option.bind_some, g4, Option.bind_some, Option.bind_some, g12, Option.bind_some, c_grown fh, bnd_some]
        exact len _ (by
          show (if decide (cut ≠ 0 ∧ no = 0) = true then A.2 25 0 else if M = 4 ∧ no = 0 then lgS hf off else hf) = _
          rw [if_neg nd, if_pos ⟨q4, q0⟩]) nc
      · rw [if_pos (by rw [li0, ni_eq (by omega) (by omega)]; exact q0), xo_g9 X3, Option.bind_some, g4, Option.bind_some]
        exact len _ (by
          show (if decide (cut ≠ 0 ∧ no = 0) = true then A.2 25 0 else if M = 4 ∧ no = 0 then lgS hf off else hf) = _
          rw [if_neg nd, if_neg (fun z => q0 z.2)]) nc
    · rw [if_pos (by rw [li4, ni_eq (by omega) (by omega)]; exact q4)]
      unfold f_X8_finish_69
      refine ⟨h3, rfl, W3, cr_head C3 (Fr.refl _ h3) (fun o _ _ _ _ => rfl) (fun o h24 h25 _ _ _ => tkS_e h24 h25) ?_ (fun i hi => cr_x C3 i hi), F3⟩
      obtain ⟨e1, e2, e3', e4, e5, e6, e7, e8⟩ := cr_h C3
      refine ⟨?_, e2, ?_, e4, e5, e6, e7, e8⟩
      · rw [e1]
        show FP.dadd (A.2 24 0) hf = (if decide (cut ≠ 0 ∧ no = 0) = true then endv else FP.dadd (A.2 24 0) hf)
        rw [if_neg nd]
      · rw [e3']
        show A.2 25 0 = (if decide (cut ≠ 0 ∧ no = 0) = true then A.2 25 0 else if M = 4 ∧ no = 0 then lgS hf off else hf)
        rw [if_neg nd, if_neg (fun z => q4 z.1), hl q4 nc]
  unfold f_X8_finish
  rw [xo_g9 X, Option.bind_some, rb_ck W.2.1, Option.bind_some, e3, bnd_some]
  by_cases qc : cut = 0
  · rw [if_pos qc]; exact f26 (fun z => z.1 qc)
  · rw [if_neg qc]
    by_cases q0 : no = 0
    · rw [if_neg (fun z => z (by rw [q0]; rfl)), putD_ok B3.1, Option.bind_some]
      unfold f_X8_finish_69
      have F4 : Fr (fun a => a = r) h3 (stD h3 r 1 endv) := fr_stD (Fr.refl _ h3) rfl
      obtain ⟨W4, G4⟩ := own _ F4
      have yd : decide (cut ≠ 0 ∧ no = 0) = true := by rw [decide_eq_true_eq]; exact ⟨qc, q0⟩
      refine ⟨_, rfl, W4, cr_head C3 (F4.mono (fun a e => Or.inl e)) (fun o _ _ _ _ => rfl) (fun o h24 h25 _ _ _ => tkS_e h24 h25) ?_ (fun i hi => ?_), G4⟩
      · obtain ⟨e1, e2, e3', e4, e5, e6, e7, e8⟩ := cr_h C3
        have q : ∀ j, j ≠ 1 → hpD (stD h3 r 1 endv) r j = hpD h3 r j := fun j hj => hpD_stD_ne (Or.inr hj)
        refine ⟨?_, e2, ?_, by rw [q 5 (by omega)]; exact e4, by rw [q 6 (by omega)]; exact e5, e6, e7, e8⟩
        · rw [hpD_stD_self]
          show endv = (if decide (cut ≠ 0 ∧ no = 0) = true then endv else FP.dadd (A.2 24 0) hf)
          rw [if_pos yd]
        · rw [q 4 (by omega), e3']
          show A.2 25 0 = (if decide (cut ≠ 0 ∧ no = 0) = true then A.2 25 0 else if M = 4 ∧ no = 0 then lgS hf off else hf)
          rw [if_pos yd]
      · rw [fr_RV F4 (by omega) (by omega)]; exact cr_x C3 i hi
    · rw [if_pos (by rw [li0, ni_eq (by omega) (by omega)]; exact q0)]
      exact f26 (fun z => q0 z.2)
