/-! ===== calls that change one run ===== -/
theorem me_wR {h0 h : Hp} {m l : Nat} (S : ME h0 h m) (t : UInt64) (x : Nat → UInt64) : wR h m l t x = wR h0 m l t x := by
  funext q f
  have es : sgR h m = sgR h0 m := by
    funext s v
    unfold sgR
    rw [(S 11 (by omega) (by omega)).1, (S 10 (by omega) (by omega)).1, (S 12 (by omega) (by omega)).2, (S 13 (by omega) (by omega)).2]
  unfold wR
  rw [es, (S 5 (by omega) (by omega)).1, (S 6 (by omega) (by omega)).1, (S 7 (by omega) (by omega)).1, (S 8 (by omega) (by omega)).1, (S 9 (by omega) (by omega)).2]
theorem me_nvR {h0 h : Hp} {m l N : Nat} (S : ME h0 h m) : nvR h m l N = nvR h0 m l N := by
  funext t x
  show nvS (wR h m l t x) N _ = nvS (wR h0 m l t x) N _
  rw [me_wR S]
theorem me_fR {h0 h : Hp} {m l N : Nat} (S : ME h0 h m) : fR h m l N = fR h0 m l N := by
  funext t x i
  show nvR h m l N t x (tc (hpI h (m + 4) (6 * l + i))) = nvR h0 m l N t x (tc (hpI h0 (m + 4) (6 * l + i)))
  rw [(S 4 (by omega) (by omega)).1, me_nvR S]
theorem me_nar {h0 h : Hp} {m l : Nat} (S : ME h0 h m) : hpI h (m + 2) l = hpI h0 (m + 2) l := by rw [(S 2 (by omega) (by omega)).1]
theorem me_trans {h0 h1 h2 : Hp} {m : Nat} (a : ME h0 h1 m) (b : ME h1 h2 m) : ME h0 h2 m := fun o h1 h2 => ⟨(b o h1 h2).1.trans (a o h1 h2).1, (b o h1 h2).2.trans (a o h1 h2).2⟩
theorem fs_fx {h h' : Hp} {m s : Nat} (F : Fs h h' m s) : Fx (fun a => m ≤ a ∧ a ≤ m + 57) (fun _ => False) h h' := ⟨F.1, F.2.1.1, fun a _ => by rw [F.2.1.2.1], fun a ha => F.2.2.1 a (by omega)⟩
theorem fs_me {h h' : Hp} {m s : Nat} (F : Fs h h' m s) : ME h h' m := F.2.1.2.2
/-- the reference's cells outside the class's work -/
theorem fx_ref {P Q : Nat → Prop} {h h' : Hp} {m : Nat} (F : Fx P Q h h') (hP : ∀ a, m ≤ a → a ≤ m + 57 → ¬ P a) (o : Nat) (ho : o ≤ 57) : hpI h' (m + o) = hpI h (m + o) ∧ hpD h' (m + o) = hpD h (m + o) := F.2.2.2 _ (hP _ (by omega) (by omega))
theorem px_ref {c L r a : Nat} (hL : c + 124 ≤ L) (hr : c + 124 ≤ r) (h1 : c + 66 ≤ a) (h2 : a ≤ c + 66 + 57) : ¬ PX c L r a := by
  unfold PX PR Pn; omega
/-- after the class's own work on a run -/
theorem ig_av {b : Nat} {h h1 : Hp} {c s nl ns nr l : Nat} {Lw nv nn Ob : Nat → Nat} {ex : Nat → Bool} {rl : Nat → Nat} {Rc : Nat → RecT} {τ : Nat → Nat} {A : RecT} (I : IG b h c s nl ns nr Lw nv nn Ob ex rl Rc τ) (hs : s < 8) (he : ex s = true) (hl : l < nl) (V : AV h h1 c (c + 66) l (nv l) ns (nn l) (Lw l) (Ob s) A) : IG b h1 c s nl ns nr Lw nv nn Ob ex rl Rc τ := by
  have I' := I
  obtain ⟨⟨a1, a2, a3, a4, a5, a6, a7, a8⟩, i2, i3, i4, i5, i6, i7, i8, i9, i10, i11, i12, i13⟩ := I
  obtain ⟨X1, W1, S1, N1, C1, F⟩ := V
  have bs := i13 s (by omega) he
  have bl := i11 l hl
  have b1 := bs.1
  have b2 := bl.1
  refine ig_fx I' hl (F.mono (fun a z => ?_) (fun a z => ?_)) W1.1.1 W1.1.2.2.2.2.2.1 S1 N1 (s0_fx F (fun a h1 h2 z => by unfold QX at z; omega) a6) (sn_fx F (fun a h1 h2 z => by unfold PX PR Pn at z; omega) a7) (fun q hq hq2 heq => ?_)
  · rcases z with (z | z) | z
    · unfold Pn at z; unfold PG; omega
    · exact Or.inr (Or.inr (Or.inr (Or.inr ⟨s, by omega, Or.inl rfl, he, z.1, z.2⟩)))
    · unfold PG; omega
  · rcases z with z | z
    · exact Or.inl z
    · exact Or.inr (Or.inr ⟨s, by omega, Or.inl rfl, he, Or.inr z⟩)
  · by_cases e : q = s
    · subst e; exact ⟨W1.2.1, W1.2.2.1, W1.2.2.2.1⟩
    · have bq := i13 q hq heq
      have b3 := bq.1
      have d1 := bk_dj bq bs (by omega) (by omega) (by omega)
      have d2 := bk_dj bq bl (by have := i2.1; omega) (by omega) (by omega)
      have nP : ∀ a, Ob q ≤ a → a < Ob q + 41 → ¬ PX c (Lw l) (Ob s) a := fun a h1 h2 z => by unfold PX PR Pn at z; omega
      obtain ⟨r1, r2, r3⟩ := i6 q hq heq
      exact ⟨rb_fx F (fun a h1 h2 z => by unfold QX at z; omega) r1, rn_fx F (nP _ (by omega) (by omega)) (nP _ (by omega) (by omega)) r2, sn_fx F (fun a h1 h2 => nP a (by omega) (by omega)) r3⟩
/-- after a write into the run's own cells -/
theorem ig_own {b : Nat} {h h1 : Hp} {c s nl ns nr l : Nat} {Lw nv nn Ob : Nat → Nat} {ex : Nat → Bool} {rl : Nat → Nat} {Rc : Nat → RecT} {τ : Nat → Nat} (I : IG b h c s nl ns nr Lw nv nn Ob ex rl Rc τ) (hs : s < 9) (he : ex s = true) (hl : l < nl) {Q : Nat → Prop} (hQ : ∀ a, Q a → a = Ob s ∨ a = Ob s + 12) (F : Fx (fun a => Ob s ≤ a ∧ a < Ob s + 41) Q h h1) (x : RX h1 (Ob s) (c + 1)) : IG b h1 c s nl ns nr Lw nv nn Ob ex rl Rc τ := by
  have I' := I
  obtain ⟨⟨a1, a2, a3, a4, a5, a6, a7, a8⟩, i2, i3, i4, i5, i6, i7, i8, i9, i10, i11, i12, i13⟩ := I
  have bs := i13 s (by omega) he
  have bl := i11 l hl
  have b1 := bs.1
  have b2 := bl.1
  have d0 := bk_dj bs bl (by have := i2.1; omega) (by omega) (by omega)
  have hC : ∀ a, a < c + 124 → hpI h1 a = hpI h a ∧ hpD h1 a = hpD h a := fun a ha => F.2.2.2 a (by omega)
  have nQ : ∀ a, a < c + 124 → ¬ Q a := fun a ha z => by have := hQ a z; omega
  refine ig_fx I' hl (F.mono (fun a z => Or.inr (Or.inr (Or.inr (Or.inr ⟨s, by omega, Or.inl rfl, he, z.1, z.2⟩)))) (fun a z => Or.inr (Or.inr ⟨s, by omega, Or.inl rfl, he, hQ a z⟩))) ⟨by rw [F.2.1]; exact a3.1, by rw [(hC (c + 1) (by omega)).2]; exact a3.2⟩ (rn_fx F (by omega) (by omega) (i3 l hl).2.2.2.2.1) (s0_fx F (fun a h1 h2 => nQ a (by omega)) a4) (sn_fx F (fun a h1 h2 z => by omega) a5) (s0_fx F (fun a h1 h2 => nQ a (by omega)) a6) (sn_fx F (fun a h1 h2 z => by omega) a7) (fun q hq hq2 heq => ?_)
  by_cases e : q = s
  · subst e; exact x
  · have bq := i13 q hq heq
    have b3 := bq.1
    have d1 := bk_dj bq bs (by omega) (by omega) (by omega)
    obtain ⟨r1, r2, r3⟩ := i6 q hq heq
    exact ⟨rb_fx F (fun a h1 h2 z => by have := hQ a z; omega) r1, rn_fx F (by omega) (by omega) r2, sn_fx F (fun a h1 h2 z => by omega) r3⟩
theorem goR_14 {F : FT} {V : UInt64 → (Nat → UInt64) → Nat → UInt64} {nar : Int32} {n : Nat} {A : RecT} {begin' : UInt64} {cut : Int32} {endv : UInt64} : (goR F V nar n A begin' cut endv).2.1 14 = A.1 14 := by
  unfold goR
  dsimp only
  split
  · unfold evS
    exact ((evL_keep _ _ _).1 14 (by omega) (by omega) (by omega)).trans rfl
  · rfl
/-- both have done with a slot -/
theorem sl_done {b : Nat} {h1 h2 : Hp} {c s nl ns nr l : Nat} {Lw nv nn Ob : Nat → Nat} {ex : Nat → Bool} {rl : Nat → Nat} {Rc : Nat → RecT} {τ : Nat → Nat} {A : RecT} (I : IG b h1 c s nl ns nr Lw nv nn Ob ex rl Rc τ) (hs : s < 8) (hr : s < 4 → s < nr) (he : ex s = true) (hl : l < nl) (F : Fs h1 h2 (c + 66) s) (sd : SdOK h1 (c + 66) l (nv l) (nn l)) (al : A.1 14 0 = nI l) (R : RR h2 (c + 66) s (nv l) A) (C : CR h1 (Ob s) (nv l) A) (va : VA (200 * b) (800 * b) (nv l) (nn l) A) (r0 : hpR h1 (Ob s) 0 = some (Lw l)) : INV b h2 c := by
  have I2 := ig_fs I (Or.inl rfl) hr F
  have b1 := (I.2.2.2.2.2.2.2.2.2.2.2.2 s (by omega) he).1
  exact ig_put I2 hl ⟨me_sd (fs_me F) sd, al, R, cr_fx C (fs_fx F) (fun a h1 h2 z => by omega) (fun _ _ _ z => z), va, by rw [F.2.1.2.1]; exact r0⟩
theorem op_step {b : Nat} {h : Hp} {c : Nat} (I0 : INV b h c) (hb : b ≤ 64) (p0 : Int32) : ∃ a h1 h2, f_X8_step c p0 h = some (a, h1) ∧ f_X9_step (c + 66) p0 h1 = some (a, h2) ∧ INV (b + 1) h2 c := by
  have Ib := inv_mono (b' := b + 1) (by omega) I0
  obtain ⟨nl, ns, nr, Lw, nv, nn, Ob, ex, rl, Rc, τ, I⟩ := I0
  have X := I.1.1
  have H := I.1.2.2.2.2.2.2.2
  have nr4 := I.2.1.2.2.1
  unfold f_X8_step f_X9_step f_X9_step_37
  rcases in_cases p0 (N := nr) (by omega) with ⟨s, hs, rfl⟩ | hv
  · obtain ⟨s4, he, hl, si, W⟩ := sl I hs
    have B := W.2.1
    obtain ⟨sd, al, R, C, va, r0⟩ := si
    simp only [xo_ck X, Option.bind_some, c_runAt_ok I hs, bnd_some]
    rw [if_pos (show ¬ some (Ob s) = none by simp), rb_gi B, Option.bind_some, (cr_h C).2.2.2.2.2.1]
    by_cases e21 : (Rc s).1 21 0 = 0
    · rw [if_pos e21, rb_gd B, Option.bind_some, (cr_h C).2.2.1]
      obtain ⟨h1, e1, V⟩ := c_advance (cut := 0) (endv := FP.dconst0) (Nat.le_refl _) X W I.1.2.2.2.1 I.1.2.2.2.2.1 C va (by omega) va.2.2.2.2.2.2.2.1 (fun _ => rfl)
      have I1 := ig_av (ig_weak (s0 := s) I) (by omega) he hl V
      obtain ⟨X1, W1, -, -, C1, F1⟩ := V
      have pr : ∀ a, c + 66 ≤ a → a ≤ c + 66 + 57 → ¬ PX c (Lw (rl s)) (Ob s) a := fun a h1 h2 => px_ref (I.2.2.2.2.2.2.2.2.2.2.1 _ hl).1 (I.2.2.2.2.2.2.2.2.2.2.2.2 s (by omega) he).1 h1 h2
      have me : ME h h1 (c + 66) := fun o _ ho => fx_ref F1 pr o (by omega)
      have R1 : RR h1 (c + 66) s (nv (rl s)) (Rc s) := rr_eq (fun o _ ho => fx_ref F1 pr o (by omega)) R
      have H1 := I1.1.2.2.2.2.2.2.2
      obtain ⟨h2, e2, F2, R2, va2⟩ := r_goes (cut := 0) (begin' := (Rc s).2 25 0) (endv := FP.dconst0) W1.1.2.2.1 (by omega) R1 va al (by omega) (by omega) va.2.2.2.2.2.2.2.1 (fun z => absurd rfl z)
      rw [me_fR me, me_nvR me, me_nar me] at e2 R2 va2
      rw [e1, bnd_some]
      refine ⟨_, h1, h2, rfl, ?_, ?_⟩
      · rw [ro_ck H1, Option.bind_some, r_isRun_ok I1 hs, bnd_some, if_pos (show ¬ (1 : Int32) = 0 by decide), ro_g22 H1, Option.bind_some, ro_a22 H1 (by omega), Option.bind_some, R1.1 21 (by omega) (by omega), if_pos e21, ro_g26 H1, Option.bind_some, ro_a26 H1 (by omega), Option.bind_some, ro_ck H1, Option.bind_some, R1.2.2.1 25 (by omega) (by omega), e2, bnd_some]
      · refine sl_done (ig_mono (b' := b + 1) (by omega) I1) (by omega) (fun _ => hs) he hl F2 (me_sd me sd) ?_ R2 C1 (va2.mono (by omega) (by omega)) W1.2.2.2.2.2
        rw [goR_14]; exact al
    · rw [if_neg e21]
      refine ⟨_, h, h, rfl, ?_, Ib⟩
      rw [ro_ck H, Option.bind_some, r_isRun_ok I hs, bnd_some, if_pos (show ¬ (1 : Int32) = 0 by decide), ro_g22 H, Option.bind_some, ro_a22 H (by omega), Option.bind_some, R.1 21 (by omega) (by omega), if_neg e21]
  · simp only [xo_ck X, Option.bind_some, c_runAt_no I hv, bnd_some]
    rw [if_neg (by simp)]
    refine ⟨_, h, h, rfl, ?_, Ib⟩
    rw [ro_ck H, Option.bind_some, r_isRun_no I hv, bnd_some, if_neg (by simp)]
