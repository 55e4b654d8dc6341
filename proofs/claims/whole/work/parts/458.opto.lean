/-! ===== going to a time ===== -/
theorem va_goR {F : FT} {V : UInt64 → (Nat → UInt64) → Nat → UInt64} {nar : Int32} {n N T B : Nat} {A : RecT} {begin' endv : UInt64} {cut : Int32} (cF : CF F n) (v : VA T B n N A) (hT : T < 500000) (hB : B < 500000) (fh : HB begin') (he : cut ≠ 0 → Nm endv ∧ endv ≠ mz) : VA (T + 1) (B + 4) n N (goR F V nar n A begin' cut endv).2 := by
  obtain ⟨M, hM, hM6⟩ := v.1
  have tM : tc (A.1 15 0) = M := by rw [hM]; exact ni_cl (by omega)
  have S := attS_spec (F := F) (nar := nar) (n := n) (M := M) (t := A.2 24 0) (x := A.2 29) (a := A.2 26 0) (b := A.2 27 0) 20 0 begin' fh
  unfold goR
  dsimp only at S ⊢
  rw [tM]
  generalize attS F nar n M (A.2 24 0) (A.2 29) (A.2 26 0) (A.2 27 0) 20 0 begin' = r at S ⊢
  by_cases q : r.1 = 0
  · rw [if_pos q]
    rcases S with z | ⟨-, s2, s3, s4, s5, s6, s7, s8⟩
    · rcases z with z | z <;> (rw [q] at z; exact absurd z (by decide))
    · rw [s4]
      have v2 := va_tk (no := r.2.1) (nar := nar) (isCut := decide (cut ≠ 0 ∧ r.2.1 = 0)) (endv := endv) v hM hM6 (by omega) cF s2 s3 (fun z => he (of_decide_eq_true z).1)
      exact va_ev v2 rfl (by omega)
  · rw [if_neg q]
    exact v.mono (by omega) (by omega)
noncomputable def cutR (A : RecT) (endv : UInt64) : Int32 := if 0 < cg (mk (FP.dsub endv (A.2 24 0))) (mk (A.2 25 0)) then 0 else 1
noncomputable def begR (A : RecT) (endv : UInt64) : UInt64 := if 0 < cg (mk (FP.dsub endv (A.2 24 0))) (mk (A.2 25 0)) then A.2 25 0 else FP.dsub endv (A.2 24 0)
noncomputable def toR (F : FT) (V : UInt64 → (Nat → UInt64) → Nat → UInt64) (nar : Int32) (n : Nat) (endv : UInt64) (A0 : RecT) : Nat → Nat → RecT → Int32 × RecT
  | 0, k, A => (nI k, A)
  | d + 1, k, A => if A.1 21 0 ≠ 0 ∨ ky (A.2 24 0) = ky endv then (nI k, A) else
      if 0 ≤ (goR F V nar n A (begR A endv) (cutR A endv) endv).1 then toR F V nar n endv A0 d (k + 1) (goR F V nar n A (begR A endv) (cutR A endv) endv).2 else ((goR F V nar n A (begR A endv) (cutR A endv) endv).1, A0)
theorem hb_begR {A : RecT} {endv : UInt64} (fe : Fn endv) (nt : Nm (A.2 24 0)) (fh : HB (A.2 25 0)) : Nm (FP.dsub endv (A.2 24 0)) ∧ HB (begR A endv) := by
  have nd : Nm (FP.dsub endv (A.2 24 0)) := dsub_nm.mpr ⟨fe.nm, nt, fun q => by have := fnk fe; omega⟩
  refine ⟨nd, ?_⟩
  unfold begR
  split
  · exact fh
  · rename_i z
    have n1 : ∀ v : UInt64, Nm v → Nm (mk v) := fun v hv => by
      show (ky _).natAbs ≤ _
      rw [ky_mk]
      have : (ky v).natAbs ≤ 9218868437227405312 := hv
      omega
    rw [cg_gt_n (n1 _ nd) (n1 _ fh.fn.nm), ky_mk, ky_mk] at z
    have : (ky (A.2 25 0)).natAbs < 4656722014701092864 := fh
    show (ky _).natAbs < _
    omega
theorem c_to117 {b : Nat} {c s nl ns nr : Nat} {Lw nv nn Ob : Nat → Nat} {ex : Nat → Bool} {rl : Nat → Nat} {Rc : Nat → RecT} {τ : Nat → Nat} {endv : UInt64} {A0 : RecT} {F : FT} {V : UInt64 → (Nat → UInt64) → Nat → UInt64} {nar : Int32} {C l : Nat} (hs : s < 4) (hl : l < nl) (he : ex s = true) (h8 : ex 8 = true) (fe : Fn endv) (nz : endv ≠ mz) (hC : C ≤ 200) (hn : nv l ≤ 6) (a21 : A0.1 21 0 = 0 ∨ A0.1 21 0 = 1) {hX : Hp} :
    ∀ d k fuel T B A h, d + k = C → d < fuel → T + d < 500000 → B + 4 * d < 500000 → IG b h c s nl ns nr Lw nv nn Ob ex rl Rc τ → WR h (c + 66) l (nv l) ns (nn l) (c + 1) (Lw l) (c + 5) (Ob s) → CR h (Ob s) (nv l) A → VA T B (nv l) (nn l) A → CR h (Ob 8) (nv l) A0 → hpR h (Ob 8) 0 = some (Lw l) → (∀ o, o < 58 → hpI h (c + 66 + o) = hpI hX (c + 66 + o) ∧ hpD h (c + 66 + o) = hpD hX (c + 66 + o)) → fR h (c + 66) l (nn l) = F → nvR h (c + 66) l (nn l) = V → hpI h (c + 66 + 2) l = nar →
    ∃ h', f_X8_to_117 fuel (some c) (nI C) (some (Ob s)) endv (some (Ob 8)) (nI k) h = some ((toR F V nar (nv l) endv A0 d k A).1, h') ∧ IG b h' c s nl ns nr Lw nv nn Ob ex rl Rc τ ∧ hpR h' (Ob s) 0 = some (Lw l) ∧ CR h' (Ob s) (nv l) (toR F V nar (nv l) endv A0 d k A).2 ∧ (∀ o, o < 58 → hpI h' (c + 66 + o) = hpI hX (c + 66 + o) ∧ hpD h' (c + 66 + o) = hpD hX (c + 66 + o)) := by
  intro d
  induction d with
  | zero =>
    intro k fuel T B A h e hf hT hB I W C1 va C8 r8 fx f1 f2 f3
    cases fuel with
    | zero => omega
    | succ fuel =>
      refine ⟨h, ?_, I, W.2.2.2.2.2, C1, fx⟩
      unfold f_X8_to_117 f_X8_to_225
      rw [if_pos (by rw [ni_le (by omega) (by omega)]; omega)]
      rfl
  | succ d ih =>
    intro k fuel T B A h e hf hT hB I W C1 va C8 r8 fx f1 f2 f3
    cases fuel with
    | zero => omega
    | succ fuel =>
      have X := I.1.1
      have Bs := W.2.1
      have nt : Nm (A.2 24 0) := va.2.2.2.2.2.2.1.1
      have fh : HB (A.2 25 0) := va.2.2.2.2.2.2.2.1
      obtain ⟨nd, hb⟩ := hb_begR (A := A) fe nt fh
      unfold f_X8_to_117 f_X8_to_225
      rw [if_neg (by rw [ni_le (by omega) (by omega)]; omega), rb_gi Bs, Option.bind_some, (cr_h C1).2.2.2.2.2.1]
      unfold toR
      by_cases z1 : A.1 21 0 = 0
      · rw [if_neg (fun w => w z1), rb_gd Bs, Option.bind_some, (cr_h C1).1]
        by_cases z2 : ky (A.2 24 0) = ky endv
        · rw [if_pos (Or.inr z2)]
          refine ⟨h, ?_, I, W.2.2.2.2.2, C1, fx⟩
          exact if_pos (cl_eq.mpr ⟨⟨nt, fe.nm⟩, z2⟩)
        · rw [if_neg (show ¬ (A.1 21 0 ≠ 0 ∨ ky (A.2 24 0) = ky endv) from fun w => w.elim (fun u => u z1) z2)]
          have zz : ¬ cl (A.2 24 0) endv = 0 := fun w => z2 (cl_eq.mp w).2
          have go : ∀ (cut : Int32) (beg : UInt64), cut = cutR A endv → beg = begR A endv → ∃ h', f_X8_to_195 (f_X8_to_117 fuel) (some c) (nI C) (some (Ob s)) endv (some (Ob 8)) (nI k) cut beg (some (Ob s)) (some c) h = some ((if 0 ≤ (goR F V nar (nv l) A (begR A endv) (cutR A endv) endv).1 then toR F V nar (nv l) endv A0 d (k + 1) (goR F V nar (nv l) A (begR A endv) (cutR A endv) endv).2 else ((goR F V nar (nv l) A (begR A endv) (cutR A endv) endv).1, A0)).1, h') ∧ IG b h' c s nl ns nr Lw nv nn Ob ex rl Rc τ ∧ hpR h' (Ob s) 0 = some (Lw l) ∧ CR h' (Ob s) (nv l) (if 0 ≤ (goR F V nar (nv l) A (begR A endv) (cutR A endv) endv).1 then toR F V nar (nv l) endv A0 d (k + 1) (goR F V nar (nv l) A (begR A endv) (cutR A endv) endv).2 else ((goR F V nar (nv l) A (begR A endv) (cutR A endv) endv).1, A0)).2 ∧ (∀ o, o < 58 → hpI h' (c + 66 + o) = hpI hX (c + 66 + o) ∧ hpD h' (c + 66 + o) = hpD hX (c + 66 + o)) := by
            intro cut beg ec eb
            subst ec eb
            have v2 := va_goR (V := V) (nar := nar) (cut := cutR A endv) (endv := endv) (F := F) (by rw [← f1]; exact cf_fR W.1.2.2.1) va (by omega) (by omega) hb (fun _ => ⟨fe.nm, nz⟩)
            obtain ⟨h1, e1, V1⟩ := c_advance (cut := cutR A endv) (begin' := begR A endv) (endv := endv) (Nat.le_refl _) X W I.1.2.2.2.1 I.1.2.2.2.2.1 C1 va (by omega) hb (fun w => by
              unfold cutR at w; unfold begR
              split
              · rfl
              · rename_i u; rw [if_neg u] at w; exact absurd w (by decide))
            rw [f1, f2, f3] at e1 V1
            have I1 := ig_av I (by omega) he hl V1
            obtain ⟨X1, W1, -, -, CC1, F1⟩ := V1
            have bs := I.2.2.2.2.2.2.2.2.2.2.2.2 s (by omega) he
            have b8 := I.2.2.2.2.2.2.2.2.2.2.2.2 8 (by omega) h8
            have bl := I.2.2.2.2.2.2.2.2.2.2.1 _ hl
            have d8 := bk_dj b8 bs (by omega) (by omega) (by omega)
            have d8l := bk_dj b8 bl (by have := I.2.1.1; omega) (by omega) (by omega)
            have b81 := b8.1
            have bs1 := bs.1
            have bl1 := bl.1
            have C81 : CR h1 (Ob 8) (nv l) A0 := cr_fx C8 F1 (fun a h1 h2 z => by unfold PX PR Pn at z; omega) (fun a h1 h2 z => by unfold QX at z; omega)
            have r81 : hpR h1 (Ob 8) 0 = some (Lw l) := by rw [F1.2.2.1 _ (by unfold QX; omega)]; exact r8
            have pr : ∀ a, c + 66 ≤ a → a ≤ c + 66 + 57 → ¬ PX c (Lw l) (Ob s) a := fun a h1 h2 => px_ref bl1 bs1 h1 h2
            have me : ME h h1 (c + 66) := fun o _ ho => fx_ref F1 pr o (by omega)
            have fx1 : ∀ o, o < 58 → hpI h1 (c + 66 + o) = hpI hX (c + 66 + o) ∧ hpD h1 (c + 66 + o) = hpD hX (c + 66 + o) := fun o ho => ⟨(fx_ref F1 pr o (by omega)).1.trans (fx o ho).1, (fx_ref F1 pr o (by omega)).2.trans (fx o ho).2⟩
            unfold f_X8_to_195
            rw [xo_ck X, Option.bind_some, e1, bnd_some]
            by_cases z3 : 0 ≤ (goR F V nar (nv l) A (begR A endv) (cutR A endv) endv).1
            · rw [if_pos z3, if_pos z3, show nI k + 1 = nI (k + 1) by rw [li1, ni_add]]
              exact ih (k + 1) fuel (T + 1) (B + 4) _ h1 (by omega) (by omega) (by omega) (by omega) I1 W1 CC1 v2 C81 r81 fx1 (by rw [me_fR me]; exact f1) (by rw [me_nvR me]; exact f2) (by rw [me_nar me]; exact f3)
            · rw [if_neg z3, if_neg z3]
              have x8 := I1.2.2.2.2.2.1 8 (by omega) h8
              have h7 : hpI h1 (Ob 8) 7 = 0 ∨ hpI h1 (Ob 8) 7 = 1 := by rw [(cr_h C81).2.2.2.2.2.1]; exact a21
              obtain ⟨h2, ec, RB2, RN2, SN2, rf2, CR2, F2⟩ := c_runcopy W1.2.1 x8.1 d8 x8.2.1 x8.2.2 W1.2.2.2.1 h7
              rw [rb_ck W1.2.1, Option.bind_some, ec, bnd_some]
              have I2 := ig_own I1 (by omega) he hl (Q := fun a => a = Ob s ∨ a = Ob s + 12) (fun a z => z) F2 ⟨RB2, RN2, SN2⟩
              exact ⟨h2, rfl, I2, by rw [rf2]; exact r81, CR2 _ _ hn C81, fun o ho => ⟨(F2.2.2.2 _ (by omega)).1.trans (fx1 o ho).1, (F2.2.2.2 _ (by omega)).2.trans (fx1 o ho).2⟩⟩
          refine Exists.imp (fun h' z => ⟨Eq.trans ?_ z.1, z.2⟩) (go (cutR A endv) (begR A endv) rfl rfl)
          refine (if_neg zz).trans ?_
          rw [Option.bind_some, fop_ok nd, Option.bind_some, c_size nd, bnd_some, rb_gd Bs, Option.bind_some, (cr_h C1).2.2.1, c_size fh.fn.nm, bnd_some]
          unfold f_X8_to_175 cutR begR
          by_cases z4 : 0 < cg (mk (FP.dsub endv (A.2 24 0))) (mk (A.2 25 0))
          · rw [if_pos z4, if_pos z4, if_pos z4]
            rw [if_pos rfl, rb_gd Bs, Option.bind_some, (cr_h C1).2.2.1]
          · rw [if_neg z4, if_neg z4, if_neg z4]
            rw [if_neg (by decide)]
      · rw [if_pos z1, if_pos (Or.inl z1)]
        exact ⟨h, rfl, I, W.2.2.2.2.2, C1, fx⟩
