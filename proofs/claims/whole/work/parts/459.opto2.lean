theorem r_to115 {m s l n ns N C : Nat} {endv : UInt64} {A0 : RecT} {F : FT} {V : UInt64 → (Nat → UInt64) → Nat → UInt64} {nar : Int32} (hs : s < 8) (fe : Fn endv) (nz : endv ≠ mz) (hC : C ≤ 200) (a21 : A0.1 21 0 = 0 ∨ A0.1 21 0 = 1) (a22 : A0.1 22 0 = 0 ∨ A0.1 22 0 = 1) {h0 : Hp} :
    ∀ d k fuel T B A h, d + k = C → d < fuel → T + d < 500000 → B + 4 * d < 500000 → SX h m l n ns N → RR h m s n A → RR h m 8 n A0 → VA T B n N A → VA (T + d) (B + 4 * d) n N A0 → A.1 14 0 = nI l → A0.1 14 0 = nI l → Fs h0 h m s → fR h m l N = F → nvR h m l N = V → hpI h (m + 2) l = nar →
    ∃ h', f_X9_to_115 fuel (some m) (nI s) (nI C) endv (FP.dsub endv (A.2 24 0)) (nI k) h = some ((toR F V nar n endv A0 d k A).1, h') ∧ Fs h0 h' m s ∧ RR h' m s n (toR F V nar n endv A0 d k A).2 ∧ VA (T + d) (B + 4 * d) n N (toR F V nar n endv A0 d k A).2 ∧ (toR F V nar n endv A0 d k A).2.1 14 0 = nI l := by
  intro d
  induction d with
  | zero =>
    intro k fuel T B A h e hf hT hB X R R8 va va0 al al0 Fz f1 f2 f3
    cases fuel with
    | zero => omega
    | succ fuel =>
      refine ⟨h, ?_, Fz, R, va, al⟩
      unfold f_X9_to_115 f_X9_to_222
      rw [if_pos (show nI C ≤ nI k by rw [ni_le (by omega) (by omega)]; omega)]
      split <;> rfl
  | succ d ih =>
    intro k fuel T B A h e hf hT hB X R R8 va va0 al al0 Fz f1 f2 f3
    cases fuel with
    | zero => omega
    | succ fuel =>
      have H := X.1
      have hn := X.2.1.2.2.2.1
      have nt : Nm (A.2 24 0) := va.2.2.2.2.2.2.1.1
      have fh : HB (A.2 25 0) := va.2.2.2.2.2.2.2.1
      obtain ⟨nd, hb⟩ := hb_begR (A := A) fe nt fh
      have sg := sub_sg2 fe nt
      have k0 : ky FP.dconst0 = 0 := by decide +kernel
      have n0 : Nm FP.dconst0 := by show (ky _).natAbs ≤ _; rw [k0]; decide
      have cz : cl (FP.dsub endv (A.2 24 0)) FP.dconst0 = 0 ↔ ky (A.2 24 0) = ky endv := by
        rw [cl_eq, k0]
        constructor
        · intro z; exact (sg.2.mp z.2).symm
        · intro z; exact ⟨⟨nd, n0⟩, sg.2.mpr z.symm⟩
      unfold f_X9_to_115 f_X9_to_222
      unfold toR
      by_cases z2 : ky (A.2 24 0) = ky endv
      · rw [if_pos (Or.inr z2)]
        exact ⟨h, if_pos (cz.mpr z2), Fz, R, va.mono (by omega) (by omega), al⟩
      · have pre : ∀ Y Z : Option (Int32 × Hp), (if cl (FP.dsub endv (A.2 24 0)) FP.dconst0 = 0 then Y else Z) = Z := fun Y Z => if_neg (fun w => z2 (cz.mp w))
        by_cases z1 : A.1 21 0 = 0
        · rw [if_neg (show ¬ (A.1 21 0 ≠ 0 ∨ ky (A.2 24 0) = ky endv) from fun w => w.elim (fun u => u z1) z2)]
          obtain ⟨h1, e1, F1, R1, v2⟩ := r_goes (cut := cutR A endv) (begin' := begR A endv) (endv := endv) X (show s < 9 by omega) R va al (by omega) (by omega) hb (fun _ => ⟨fe.nm, nz⟩)
          rw [f1, f2, f3] at e1 R1 v2
          have X1 := le_SX F1.2.1 X
          have H1 := X1.1
          have R81 := F1.2.2.2.2.2 8 (by omega) _ _ hn R8
          have al1 : (goR F V nar n A (begR A endv) (cutR A endv) endv).2.1 14 0 = nI l := by rw [goR_14]; exact al
          have sz : ∀ g : Hp, f_X9_size (FP.dsub endv (A.2 24 0)) g = some (mk (FP.dsub endv (A.2 24 0)), g) := fun g => r_size (Or.inl nd) g
          have sz2 : ∀ g : Hp, f_X9_size (A.2 25 0) g = some (mk (A.2 25 0), g) := fun g => r_size (Or.inl fh.fn.nm) g
          have body : f_X9_to_181 (f_X9_to_115 fuel) (some m) (nI s) (nI C) endv (nI k) (cutR A endv) (begR A endv) (nI s) (some m) h = (if 0 ≤ (goR F V nar n A (begR A endv) (cutR A endv) endv).1 then (fop (FP.dsub endv ((goR F V nar n A (begR A endv) (cutR A endv) endv).2.2 24 0))).bind fun x9 => f_X9_to_115 fuel (some m) (nI s) (nI C) endv x9 (nI (k + 1)) h1 else bnd (f_X9_copies m (nI 8) (nI s) h1) fun _ h11 => some ((goR F V nar n A (begR A endv) (cutR A endv) endv).1, h11)) := by
            unfold f_X9_to_181
            rw [ro_ck H, Option.bind_some, e1, bnd_some, show nI k + 1 = nI (k + 1) by rw [li1, ni_add]]
            by_cases z3 : 0 ≤ (goR F V nar n A (begR A endv) (cutR A endv) endv).1
            · rw [if_pos z3, if_pos z3, ro_g25 H1, Option.bind_some, ro_a25 H1 (by omega), Option.bind_some, R1.2.2.1 24 (by omega) (by omega)]
            · rw [if_neg z3, if_neg z3, ro_ck H1, Option.bind_some]
              rfl
          have head : (if cl (FP.dsub endv (A.2 24 0)) FP.dconst0 = 0 then some (nI k, h) else if nI C ≤ nI k then some (nI k, h) else (getR h (some m) 9 22).bind fun x3 => (aldI h x3 12 (nI s)).bind fun x4 => if ¬ x4 = 0 then some (nI k, h) else bnd (f_X9_size (FP.dsub endv (A.2 24 0)) h) fun x6 h7 => (getR h7 (some m) 9 26).bind fun x9 => (aldD h7 x9 (nI s)).bind fun x10 => bnd (f_X9_size x10 h7) fun x11 h12 => if 0 < cg x6 x11 then f_X9_to_161 (f_X9_to_115 fuel) (some m) (nI s) (nI C) endv (FP.dsub endv (A.2 24 0)) (nI k) 0 h12 else f_X9_to_161 (f_X9_to_115 fuel) (some m) (nI s) (nI C) endv (FP.dsub endv (A.2 24 0)) (nI k) 1 h12) = f_X9_to_181 (f_X9_to_115 fuel) (some m) (nI s) (nI C) endv (nI k) (cutR A endv) (begR A endv) (nI s) (some m) h := by
            rw [pre, if_neg (by rw [ni_le (by omega) (by omega)]; omega), ro_g22 H, Option.bind_some, ro_a22 H (by omega), Option.bind_some, R.1 21 (by omega) (by omega), if_neg (fun w => w z1), sz, bnd_some, ro_g26 H, Option.bind_some, ro_a26 H (by omega), Option.bind_some, R.2.2.1 25 (by omega) (by omega), sz2, bnd_some]
            unfold f_X9_to_161 cutR begR
            by_cases z4 : 0 < cg (mk (FP.dsub endv (A.2 24 0))) (mk (A.2 25 0))
            · rw [if_pos z4, if_pos z4, if_pos z4, if_pos rfl, ro_g26 H, Option.bind_some, ro_a26 H (by omega), Option.bind_some, R.2.2.1 25 (by omega) (by omega)]
            · rw [if_neg z4, if_neg z4, if_neg z4, if_neg (by decide)]
          by_cases z3 : 0 ≤ (goR F V nar n A (begR A endv) (cutR A endv) endv).1
          · rw [if_pos z3] at body ⊢
            have nd1 := (hb_begR (A := (goR F V nar n A (begR A endv) (cutR A endv) endv).2) fe v2.2.2.2.2.2.2.1.1 v2.2.2.2.2.2.2.2.1).1
            rw [fop_ok nd1, Option.bind_some] at body
            obtain ⟨h2, e2, F2, R2, v3, al2⟩ := ih (k + 1) fuel (T + 1) (B + 4) _ h1 (by omega) (by omega) (by omega) (by omega) X1 R1 R81 v2 (va0.mono (by omega) (by omega)) al1 al0 (Fz.trans F1) (by rw [le_fR F1.2.1]; exact f1) (by rw [le_nvR F1.2.1]; exact f2) (by rw [le_nar F1.2.1]; exact f3)
            exact ⟨h2, head.trans (body.trans e2), F2, R2, v3.mono (by omega) (by omega), al2⟩
          · rw [if_neg z3] at body ⊢
            obtain ⟨h2, e2, F2, R2⟩ := r_copies H1 (show 8 < 9 by omega) (show s < 9 by omega) (by omega) hn R81 a21 a22
            rw [e2, bnd_some] at body
            exact ⟨h2, head.trans body, (Fz.trans F1).trans F2, R2, va0, al0⟩
        · rw [if_pos (Or.inl z1)]
          refine ⟨h, (pre _ _).trans ?_, Fz, R, va.mono (by omega) (by omega), al⟩
          rw [if_neg (by rw [ni_le (by omega) (by omega)]; omega), ro_g22 H, Option.bind_some, ro_a22 H (by omega), Option.bind_some, R.1 21 (by omega) (by omega), if_pos z1]
