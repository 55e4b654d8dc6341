theorem r_half2 {h : Hp} {m l n ns N s i M : Nat} {A : RecT} {hh : UInt64} {W : Nat → UInt64} (X : SX h m l n ns N) (hs : s < 9) (R : RR h m s n A) (hM : A.1 15 0 = nI M) (hM6 : M ≤ 6) (fh : HB hh) (nt : Nm (A.2 24 0)) (hi : i < n) (ez : ∀ i, i < n → hpD h (m + 47) i = W i) (fw : ∀ i, i < n → Fn (W i)) (ex : ∀ i, i < n → hpD h (m + 45) i = A.2 29 i) (cx : ∀ i, i < n → Cv (A.2 29 i)) :
    ∃ a h', f_X9_halves_129 fuelN (some m) (nI s) (nI i) (nI l) (nI n) hh 0 h = some (a, h') ∧ Fs h h' m 8 ∧ (¬ Tame (fR h m l N) (hpI h (m + 2) l) n M (A.2 24 0) (FP.ddiv hh 4611686018427387904) (A.2 29) → a = 9221120237041090560) ∧ (Tame (fR h m l N) (hpI h (m + 2) l) n M (A.2 24 0) (FP.ddiv hh 4611686018427387904) (A.2 29) → ¬ Tame (fR h m l N) (hpI h (m + 2) l) n M (FP.dadd (A.2 24 0) (FP.ddiv hh 4611686018427387904)) (FP.ddiv hh 4611686018427387904) (zS (fR h m l N) (hpI h (m + 2) l) n M (A.2 24 0) (FP.ddiv hh 4611686018427387904) (A.2 29)) → a = 9221120237041090560) ∧ (Tame (fR h m l N) (hpI h (m + 2) l) n M (A.2 24 0) (FP.ddiv hh 4611686018427387904) (A.2 29) → Tame (fR h m l N) (hpI h (m + 2) l) n M (FP.dadd (A.2 24 0) (FP.ddiv hh 4611686018427387904)) (FP.ddiv hh 4611686018427387904) (zS (fR h m l N) (hpI h (m + 2) l) n M (A.2 24 0) (FP.ddiv hh 4611686018427387904) (A.2 29)) → a = tell (FP.dsub (zS (fR h m l N) (hpI h (m + 2) l) n M (FP.dadd (A.2 24 0) (FP.ddiv hh 4611686018427387904)) (FP.ddiv hh 4611686018427387904) (zS (fR h m l N) (hpI h (m + 2) l) n M (A.2 24 0) (FP.ddiv hh 4611686018427387904) (A.2 29)) i) (W i))) := by
  obtain ⟨H, L, s1, s2, s3⟩ := id X
  have hn := L.2.2.2.1
  have fh2 := hb_half fh
  have lp := row_cp (fun fuel j hh' => f_X9_halves_129 fuel (some m) (nI s) (nI i) (nI l) (nI n) hh j hh') (h := h) (src := m + 47) (dst := m + 55) (n := n) (E := W) (res := fun g => f_X9_halves_129 1 (some m) (nI s) (nI i) (nI l) (nI n) hh (nI n) g) hn (fun _ _ _ => Or.inr trivial) (by
    intro fuel j hj
    have H' := H.rwD (m + 55) (rowU j W (hpD h (m + 55)))
    rw [f_X9_halves_129, if_neg (show ¬ nI n ≤ nI j by rw [ni_le (by omega) (by omega)]; omega), ro_g57 H', Option.bind_some, ro_g49 H', Option.bind_some, ro_a49 H' (by omega), Option.bind_some, hpD_rwD_ne (by omega), ez j hj, ro_s57 H' (by omega), Option.bind_some, rwD_stD, rowU_s, li1, ni_add]) (by
    intro fuel
    rw [f_X9_halves_129, f_X9_halves_129, if_pos (show nI n ≤ nI n from (ni_le (by omega) (by omega)).mpr (Nat.le_refl _)), if_pos (show nI n ≤ nI n from (ni_le (by omega) (by omega)).mpr (Nat.le_refl _))])
  rw [lp]
  have F0 : Fs h (rwD h (m + 55) (rowU n W (hpD h (m + 55)))) m 8 := fs_wk 8 _ (by omega)
  have R0 : RR (rwD h (m + 55) (rowU n W (hpD h (m + 55)))) m s n A := rr_wk (by omega) R
  have x0 : ∀ i, i < n → hpD (rwD h (m + 55) (rowU n W (hpD h (m + 55)))) (m + 45) i = A.2 29 i := fun i hi => by rw [hpD_rwD_ne (by omega)]; exact ex i hi
  have w0 : ∀ i, i < n → hpD (rwD h (m + 55) (rowU n W (hpD h (m + 55)))) (m + 55) i = W i := fun i hi => by rw [hpD_rwD_self, rowU_lt hi]
  generalize rwD h (m + 55) (rowU n W (hpD h (m + 55))) = g at F0 R0 x0 w0 ⊢
  have Xg := le_SX F0.2.1 X
  have Hg := Xg.1
  obtain ⟨w, h', e, S, w01, wT, -, zz, -⟩ := r_made' Xg hM6 nt fh2 x0 cx
  rw [le_fR F0.2.1, le_nar F0.2.1] at wT zz
  have X' := le_SX S.le Xg
  rw [f_X9_halves_129, if_pos (show nI n ≤ nI n from (ni_le (by omega) (by omega)).mpr (Nat.le_refl _)), ro_g16 Hg, Option.bind_some, ro_a16 Hg hs, Option.bind_some, R0.1 15 (by omega) (by omega), hM, ro_g25 Hg, Option.bind_some, ro_a25 Hg hs, Option.bind_some, R0.2.2.1 24 (by omega) (by omega), fop_ok fh2.fn.nm, Option.bind_some, ro_ck Hg, Option.bind_some, e, bnd_some]
  by_cases z : w = 0
  · have T2 := wT.mp z
    have Fa := F0.trans (S.fs 8)
    rw [if_pos z]
    obtain ⟨a, h3, e3, F3, q1, q2⟩ := r_half3 (s := s) (i := i) (M := M) (A := A) (hh := hh) (W := W) (z2 := zS (fR h m l N) (hpI h (m + 2) l) n M (A.2 24 0) (FP.ddiv hh 4611686018427387904) (A.2 29)) X' hs (S.rr R0) hM hM6 fh T2.2.2.2.2.nm hi zz (cv_zS cx) (fun i hi => by rw [S.2.2.2.2.2 (m + 55) (by omega)]; exact w0 i hi) fw
    rw [le_fR Fa.2.1, le_nar Fa.2.1] at q1 q2
    exact ⟨a, h3, e3, Fa.trans F3, fun q => absurd T2 q, fun _ => q1, fun _ => q2⟩
  · rw [if_neg z]
    exact ⟨_, _, rfl, F0.trans (S.fs 8), fun _ => rfl, fun q => absurd (wT.mpr q) z, fun q => absurd (wT.mpr q) z⟩
theorem r_half1 {h : Hp} {m l n ns N s i M : Nat} {A : RecT} {hh : UInt64} (X : SX h m l n ns N) (hs : s < 9) (R : RR h m s n A) (hM : A.1 15 0 = nI M) (hM6 : M ≤ 6) (fh : HB hh) (nt : Nm (A.2 24 0)) (hi : i < n) (cx : ∀ i, i < n → Cv (A.2 29 i)) :
    ∃ a h', f_X9_halves_68 fuelN (some m) (nI s) (nI i) (nI l) (nI n) hh 0 h = some (a, h') ∧ Fs h h' m 8 ∧ HvA (fR h m l N) (hpI h (m + 2) l) n M i (A.2 24 0) hh (A.2 29) a := by
  obtain ⟨H, L, s1, s2, s3⟩ := id X
  have hn := L.2.2.2.1
  have lp := row_cp (fun fuel j hh' => f_X9_halves_68 fuel (some m) (nI s) (nI i) (nI l) (nI n) hh j hh') (h := h) (src := m + 29) (dst := m + 45) (n := n) (E := A.2 29) (res := fun g => f_X9_halves_68 1 (some m) (nI s) (nI i) (nI l) (nI n) hh (nI n) g) hn (fun _ _ _ => Or.inr trivial) (by
    intro fuel j hj
    have H' := H.rwD (m + 45) (rowU j (A.2 29) (hpD h (m + 45)))
    rw [f_X9_halves_68, if_neg (show ¬ nI n ≤ nI j by rw [ni_le (by omega) (by omega)]; omega), ro_g47 H', Option.bind_some, ro_g30 H', Option.bind_some, li6, ni_mul, ni_add, ro_a30 H' (by omega), Option.bind_some, hpD_rwD_ne (by omega), R.2.2.2.2.2.1 j hj, ro_s47 H' (by omega), Option.bind_some, rwD_stD, rowU_s, li1, ni_add]) (by
    intro fuel
    rw [f_X9_halves_68, f_X9_halves_68, if_pos (show nI n ≤ nI n from (ni_le (by omega) (by omega)).mpr (Nat.le_refl _)), if_pos (show nI n ≤ nI n from (ni_le (by omega) (by omega)).mpr (Nat.le_refl _))])
  rw [lp]
  have F0 : Fs h (rwD h (m + 45) (rowU n (A.2 29) (hpD h (m + 45)))) m 8 := fs_wk 8 _ (by omega)
  have R0 : RR (rwD h (m + 45) (rowU n (A.2 29) (hpD h (m + 45)))) m s n A := rr_wk (by omega) R
  have x0 : ∀ i, i < n → hpD (rwD h (m + 45) (rowU n (A.2 29) (hpD h (m + 45)))) (m + 45) i = A.2 29 i := fun i hi => by rw [hpD_rwD_self, rowU_lt hi]
  generalize rwD h (m + 45) (rowU n (A.2 29) (hpD h (m + 45))) = g at F0 R0 x0 ⊢
  have Xg := le_SX F0.2.1 X
  have Hg := Xg.1
  obtain ⟨w, h', e, S, w01, wT, -, zz, -⟩ := r_made' Xg hM6 nt fh x0 cx
  rw [le_fR F0.2.1, le_nar F0.2.1] at wT zz
  have X' := le_SX S.le Xg
  rw [f_X9_halves_68, if_pos (show nI n ≤ nI n from (ni_le (by omega) (by omega)).mpr (Nat.le_refl _)), ro_g16 Hg, Option.bind_some, ro_a16 Hg hs, Option.bind_some, R0.1 15 (by omega) (by omega), hM, ro_g25 Hg, Option.bind_some, ro_a25 Hg hs, Option.bind_some, R0.2.2.1 24 (by omega) (by omega), ro_ck Hg, Option.bind_some, e, bnd_some]
  by_cases z : w = 0
  · have T1 := wT.mp z
    have Fa := F0.trans (S.fs 8)
    rw [if_pos z]
    obtain ⟨a, h3, e3, F3, q1, q2, q3⟩ := r_half2 (s := s) (i := i) (M := M) (A := A) (hh := hh) (W := zS (fR h m l N) (hpI h (m + 2) l) n M (A.2 24 0) hh (A.2 29)) X' hs (S.rr R0) hM hM6 fh nt hi zz T1.2.2.2.1 (fun i hi => by rw [S.2.2.2.2.2 (m + 45) (by omega)]; exact x0 i hi) cx
    rw [le_fR Fa.2.1, le_nar Fa.2.1] at q1 q2 q3
    exact ⟨a, h3, e3, Fa.trans F3, fun q => absurd T1 q, fun _ => q1, fun _ => q2, fun _ => q3⟩
  · rw [if_neg z]
    exact ⟨_, _, rfl, F0.trans (S.fs 8), fun _ => rfl, fun q => absurd (wT.mpr q) z, fun q => absurd (wT.mpr q) z, fun q => absurd (wT.mpr q) z⟩
theorem hv_ig {b : Nat} {h h1 : Hp} {c s nl ns nr l r : Nat} {Lw nv nn Ob : Nat → Nat} {ex : Nat → Bool} {rl : Nat → Nat} {Rc : Nat → RecT} {τ : Nat → Nat} {A : RecT} (I : IG b h c s nl ns nr Lw nv nn Ob ex rl Rc τ) (hl : l < nl) (V : HV h h1 c l (nv l) ns (nn l) (Lw l) r A) : IG b h1 c s nl ns nr Lw nv nn Ob ex rl Rc τ := by
  obtain ⟨X, W, S, sT, S2, sT2, C, F⟩ := V
  exact ig_scr I hl F (fun a z => by unfold PH Pn at z; omega) (fun a z => z) W.1.1 W.1.2.2.2.2.2.1 S sT S2 sT2
theorem op_halves {b : Nat} {h : Hp} {c : Nat} (I0 : INV b h c) (p0 p1 : Int32) : ∃ a h1 h2, f_X8_halves c p0 p1 h = some (a, h1) ∧ f_X9_halves (c + 66) p0 p1 h1 = some (a, h2) ∧ INV (b + 1) h2 c := by
  have Ib := inv_mono (b' := b + 1) (by omega) I0
  obtain ⟨nl, ns, nr, Lw, nv, nn, Ob, ex, rl, Rc, τ, I⟩ := I0
  have X := I.1.1
  have te := I.1.2.1
  have H := I.1.2.2.2.2.2.2.2
  have nr4 := I.2.1.2.2.1
  unfold f_X8_halves f_X8_halves_28
  rcases in_cases p0 (N := nr) (by omega) with ⟨s, hs, rfl⟩ | hv
  · obtain ⟨s4, he, hl, si, W⟩ := sl I hs
    have B := W.2.1
    obtain ⟨hn, hn1, hN, l8, e1, e3, en, eN, -⟩ := wr_nv W
    obtain ⟨sd, al, R, C, va, r0⟩ := si
    have rl' := rr_l R al
    have b1 := (I.2.2.2.2.2.2.2.2.2.2.2.2 s (by omega) he).1
    have bl := (I.2.2.2.2.2.2.2.2.2.2.1 _ hl).1
    simp only [xo_ck X, Option.bind_some, c_runAt_ok I hs, bnd_some]
    rw [if_neg (show ¬ some (Ob s) = none by simp), rb_g0 B, Option.bind_some, r0, lo_ck W.1.2.1, Option.bind_some]
    rcases in_cases p1 (N := nv (rl s)) (by omega) with ⟨i, hi, rfl⟩ | hv
    · rw [hasV_ok W.1.2.1 en hi hn, bnd_some, if_neg (by decide), rb_gi B, Option.bind_some, (cr_h C).2.2.2.2.2.1]
      by_cases e21 : (Rc s).1 21 0 = 0
      · obtain ⟨⟨M, eM, hM⟩, va2⟩ := id va
        have fh : HB ((Rc s).2 25 0) := va.2.2.2.2.2.2.2.1
        have fh2 := hb_half fh
        have nt : Nm ((Rc s).2 24 0) := va.2.2.2.2.2.2.1.1
        have cx := va.2.2.2.2.2.2.2.2.2.2.2.2.1
        have dj := bk_dj (I.2.2.2.2.2.2.2.2.2.2.2.2 s (by omega) he) (I.2.2.2.2.2.2.2.2.2.2.1 _ hl) (by have := I.2.1.1; omega) (by omega) (by omega)
        have DP : Dp (fR h (c + 66) (rl s) (nn (rl s))) (nv (rl s)) := dp_fR W.1.2.2.1
        have fin : ∀ (a : Int64) (g : Hp), HV h g c (rl s) (nv (rl s)) ns (nn (rl s)) (Lw (rl s)) (Ob s) (Rc s) → HvA (fR h (c + 66) (rl s) (nn (rl s))) (hpI h (c + 66 + 2) (rl s)) (nv (rl s)) M i ((Rc s).2 24 0) ((Rc s).2 25 0) ((Rc s).2 29) a → ∃ a' h1 h2, some (a, g) = some (a', h1) ∧ f_X9_halves (c + 66) (nI s) (nI i) h1 = some (a', h2) ∧ INV (b + 1) h2 c := by
          intro a g V HA
          have Ig := hv_ig I hl V
          have Hg := Ig.1.2.2.2.2.2.2.2
          have fe := hv_me bl V
          have me : ME h g (c + 66) := fun o _ ho => fe o (by omega)
          have Rg : RR g (c + 66) s (nv (rl s)) (Rc s) := rr_eq (fun o _ ho => fe o (by omega)) R
          obtain ⟨a', g2, e2, F2, HA2⟩ := r_half1 (i := i) V.2.1.1.2.2.1 (show s < 9 by omega) Rg eM hM fh nt hi cx
          rw [me_fR me, me_nar me] at HA2
          have ea := hva_eq HA HA2
          subst ea
          refine ⟨a, g, g2, rfl, ?_, ⟨nl, ns, nr, Lw, nv, nn, Ob, ex, rl, Rc, τ, ig_mono (by omega) (ig_fs Ig (Or.inr rfl) (by omega) F2)⟩⟩
          unfold f_X9_halves
          rw [ro_ck Hg, Option.bind_some, r_isRun_ok Ig hs, bnd_some, if_neg (by decide), ro_g0 Hg, Option.bind_some, ro_g15 Hg, Option.bind_some, ro_a15 Hg (by omega), Option.bind_some, rr_l Rg al, ro_a0 Hg l8, Option.bind_some, (me 1 (by omega) (by omega)).1, e1, r_in_ok hi (by omega), bnd_some, if_neg (by decide), ro_g22 Hg, Option.bind_some, ro_a22 Hg (by omega), Option.bind_some, Rg.1 21 (by omega) (by omega), if_pos e21, ro_g15 Hg, Option.bind_some, ro_a15 Hg (by omega), Option.bind_some, rr_l Rg al, ro_g0 Hg, Option.bind_some, ro_a0 Hg l8, Option.bind_some, (me 1 (by omega) (by omega)).1, e1, ro_g26 Hg, Option.bind_some, ro_a26 Hg (by omega), Option.bind_some, Rg.2.2.1 25 (by omega) (by omega), e2]
        have V0 : HV h h c (rl s) (nv (rl s)) ns (nn (rl s)) (Lw (rl s)) (Ob s) (Rc s) := ⟨X, W, I.1.2.2.2.1, I.1.2.2.2.2.1, I.1.2.2.2.2.2.1, I.1.2.2.2.2.2.2.1, C, Fx.refl _ _ _⟩
        have npr : ∀ T, (T = c + 8 ∨ T = c + 37) → ∀ a, Ob s ≤ a → a < Ob s + 41 → ¬ PT (c + 1) (Lw (rl s)) T a := fun T hT a h1 h2 z => by unfold PT Pn at z; omega
        obtain ⟨w1, h1, m1, V1, w101, w1T, sd1, F1⟩ := hv_make (T := c + 8) (xr := Ob s + 1) (M := M) bl b1 (Or.inl rfl) V0 (rb_rw B) W.2.2.1 (npr _ (Or.inl rfl) _ (by omega) (by omega)) (npr _ (Or.inl rfl) _ (by omega) (by omega)) hM nt fh
        have t1 : ∀ {hh : UInt64} {g : Hp}, (∀ j, j < nv (rl s) → RV g (Ob s + 1) j = (Rc s).2 29 j) → (Tame (fR h (c + 66) (rl s) (nn (rl s))) (hpI h (c + 66 + 2) (rl s)) (nv (rl s)) M ((Rc s).2 24 0) hh (RV g (Ob s + 1)) ↔ Tame (fR h (c + 66) (rl s) (nn (rl s))) (hpI h (c + 66 + 2) (rl s)) (nv (rl s)) M ((Rc s).2 24 0) hh ((Rc s).2 29)) := fun q => ⟨fun z => tame_c DP q z, fun z => tame_c DP (fun j hj => (q j hj).symm) z⟩
        rw [if_pos e21, rb_g0 B, Option.bind_some, r0, rb_gd B, Option.bind_some, (cr_h C).2.2.1, fop_ok fh2.fn.nm, Option.bind_some, xo_g9 X, Option.bind_some, rb_gi B, Option.bind_some, (cr_h C).2.1, eM, rb_gd B, Option.bind_some, (cr_h C).1, rb_g2 B, Option.bind_some, Option.bind_some, ck_ok I.1.2.2.2.1.1, Option.bind_some, m1, bnd_some]
        by_cases z1 : w1 = 1
        · have T1 := (t1 (cr_x C)).mp (w1T.mp z1)
          have S1 := sd_c DP (cr_x C) (sd1 z1)
          obtain ⟨X1, W1, SA1, SB1, SC1, SD1, C1, FX1⟩ := id V1
          obtain ⟨w2, h2, m2, V2, w201, w2T, sd2, F2⟩ := hv_make (T := c + 37) (xr := Ob s + 1) (M := M) bl b1 (Or.inr rfl) V1 (rb_rw W1.2.1) W1.2.2.1 (npr _ (Or.inr rfl) _ (by omega) (by omega)) (npr _ (Or.inr rfl) _ (by omega) (by omega)) hM nt fh2
          have f1 : Fn (RV h1 (c + 8 + 7) i) := by rw [S1.2.2.2.2.2.2.1 i hi]; exact T1.2.2.2.1 i hi
          rw [if_pos (show ¬ w1 = 0 by rw [z1]; decide), xo_g9 X1, Option.bind_some, s0_g8 SA1, Option.bind_some, rw_g0 (s0_r SA1 i7), Option.bind_some, rw_a0 (s0_r SA1 i7) (show i < 6 by omega) (by omega), Option.bind_some, rv_raw f1, S1.2.2.2.2.2.2.1 i hi, xo_g10 X1, Option.bind_some, rb_gi W1.2.1, Option.bind_some, (cr_h C1).2.1, eM, rb_gd W1.2.1, Option.bind_some, (cr_h C1).1, rb_g2 W1.2.1, Option.bind_some, ck_ok SC1.1, Option.bind_some, m2, bnd_some]
          by_cases z2 : w2 = 1
          · have T2 := (t1 (cr_x C1)).mp (w2T.mp z2)
            have S2 := sd_c DP (cr_x C1) (sd2 z2)
            obtain ⟨X2, W2, SA2, SB2, SC2, SD2, C2, FX2⟩ := id V2
            have x3 : ∀ o, o < 29 → ¬ PT (c + 1) (Lw (rl s)) (c + 8) (c + 37 + o) := fun o ho z => by unfold PT Pn at z; omega
            have nt3 : Nm (FP.dadd ((Rc s).2 24 0) (FP.ddiv ((Rc s).2 25 0) 4611686018427387904)) := T2.2.2.2.2.nm
            obtain ⟨w3, h3, m3, V3, w301, w3T, sd3, F3⟩ := hv_make (T := c + 8) (xr := c + 37 + 7) (M := M) bl b1 (Or.inl rfl) V2 (s0_r SC2 i7) (SD2 7 i7) (x3 8 (by omega)) (x3 9 (by omega)) hM nt3 fh2
            have q3 := S2.2.2.2.2.2.2.1
            have t3 := fun z => tame_c DP q3 (w3T.mp z)
            have t3' := fun z => w3T.mpr (tame_c DP (fun j hj => (q3 j hj).symm) z)
            rw [if_pos (show ¬ w2 = 0 by rw [z2]; decide), xo_g9 X2, Option.bind_some, rb_gi W2.2.1, Option.bind_some, (cr_h C2).2.1, eM, xo_g10 X2, Option.bind_some, getD_ok SC2.1, Option.bind_some, S2.2.2.2.1, Option.bind_some, s0_g8 SC2, Option.bind_some, ck_ok SA2.1, Option.bind_some, m3, bnd_some]
            by_cases z3 : w3 = 1
            · have T3 := t3 z3
              have S3 := sd_c DP q3 (sd3 z3)
              obtain ⟨X3, W3, SA3, SB3, SC3, SD3, C3, FX3⟩ := id V3
              have f3 : Fn (RV h3 (c + 8 + 7) i) := by rw [S3.2.2.2.2.2.2.1 i hi]; exact T3.2.2.2.1 i hi
              have I3 := hv_ig I hl V3
              have fz := T3.2.2.2.1 i hi
              have fw := T1.2.2.2.1 i hi
              have nd := dsub_nm.mpr ⟨fz.nm, fw.nm, fun q => by have := fnk fz; omega⟩
              rw [if_pos (show ¬ w3 = 0 by rw [z3]; decide), xo_g1 X3, Option.bind_some, xo_g9 X3, Option.bind_some, s0_g8 SA3, Option.bind_some, rw_g0 (s0_r SA3 i7), Option.bind_some, rw_a0 (s0_r SA3 i7) (show i < 6 by omega) (by omega), Option.bind_some, rv_raw f3, S3.2.2.2.2.2.2.1 i hi, fop_ok nd, Option.bind_some, xo_tk X3, Option.bind_some, c_bits X3 I3.1.2.1 nd, bnd_some]
              exact fin _ _ V3 ⟨fun q => absurd T1 q, fun _ q => absurd T2 q, fun _ _ q => absurd T3 q, fun _ _ _ => rfl⟩
            · have z30 := w301.resolve_right z3
              rw [if_neg (show ¬ ¬ w3 = 0 by rw [z30]; decide)]
              exact fin _ _ V3 ⟨fun _ => rfl, fun _ _ => rfl, fun _ _ _ => rfl, fun _ _ q => absurd (t3' q) z3⟩
          · have z20 := w201.resolve_right z2
            rw [if_neg (show ¬ ¬ w2 = 0 by rw [z20]; decide)]
            exact fin _ _ V2 ⟨fun _ => rfl, fun _ _ => rfl, fun _ _ _ => rfl, fun _ q => absurd (w2T.mpr ((t1 (cr_x C1)).mpr q)) z2⟩
        · have z10 := w101.resolve_right z1
          rw [if_neg (show ¬ ¬ w1 = 0 by rw [z10]; decide)]
          exact fin _ _ V1 ⟨fun _ => rfl, fun _ _ => rfl, fun _ _ _ => rfl, fun q => absurd (w1T.mpr ((t1 (cr_x C)).mpr q)) z1⟩
      · rw [if_neg e21]
        refine ⟨_, h, h, rfl, ?_, Ib⟩
        unfold f_X9_halves f_X9_halves_38
        rw [ro_ck H, Option.bind_some, r_isRun_ok I hs, bnd_some, if_neg (by decide), ro_g0 H, Option.bind_some, ro_g15 H, Option.bind_some, ro_a15 H (by omega), Option.bind_some, rl', ro_a0 H l8, Option.bind_some, e1, r_in_ok hi (by omega), bnd_some, if_neg (by decide), ro_g22 H, Option.bind_some, ro_a22 H (by omega), Option.bind_some, R.1 21 (by omega) (by omega), if_neg e21]
    · rw [hasV_no W.1.2.1 en hv, bnd_some, if_pos rfl]
      refine ⟨_, h, h, rfl, ?_, Ib⟩
      unfold f_X9_halves f_X9_halves_38
      rw [ro_ck H, Option.bind_some, r_isRun_ok I hs, bnd_some, if_neg (by decide), ro_g0 H, Option.bind_some, ro_g15 H, Option.bind_some, ro_a15 H (by omega), Option.bind_some, rl', ro_a0 H l8, Option.bind_some, e1, r_in_no (by omega) hv, bnd_some, if_pos rfl]
  · simp only [xo_ck X, Option.bind_some, c_runAt_no I hv, bnd_some]
    rw [if_pos trivial]
    refine ⟨_, h, h, rfl, ?_, Ib⟩
    unfold f_X9_halves f_X9_halves_38
    rw [ro_ck H, Option.bind_some, r_isRun_no I hv, bnd_some, if_pos rfl]
