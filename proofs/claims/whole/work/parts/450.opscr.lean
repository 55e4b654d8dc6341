/-- the class's work in its own workplaces and a law's -/
theorem ig_scr {b : Nat} {h h1 : Hp} {c s0 nl ns nr l : Nat} {Lw nv nn Ob : Nat → Nat} {ex : Nat → Bool} {rl : Nat → Nat} {Rc : Nat → RecT} {τ : Nat → Nat} (I : IG b h c s0 nl ns nr Lw nv nn Ob ex rl Rc τ) (hl : l < nl) {P Q : Nat → Prop} (F : Fx P Q h h1) (hP : ∀ a, P a → a = c + 1 ∨ a = Lw l + 7 ∨ a = Lw l + 8 ∨ (c + 8 ≤ a ∧ a < c + 66)) (hQ : ∀ a, Q a → a = c + 8 ∨ a = c + 37) (K : RK h1 (c + 1)) (V : RN h1 (Lw l + 6) 48) (T1 : S0 h1 (c + 8) (c + 1)) (T2 : SN h1 (c + 8)) (T3 : S0 h1 (c + 37) (c + 1)) (T4 : SN h1 (c + 37)) : IG b h1 c s0 nl ns nr Lw nv nn Ob ex rl Rc τ := by
  have I' := I
  obtain ⟨⟨a1, a2, a3, a4, a5, a6, a7, a8⟩, i2, i3, i4, i5, i6, i7, i8, i9, i10, i11, i12, i13⟩ := I
  have bl := i11 l hl
  have b2 := bl.1
  refine ig_fx I' hl (F.mono (fun a z => ?_) (fun a z => ?_)) K V T1 T2 T3 T4 (fun q hq hq2 heq => ?_)
  · have := hP a z; unfold PG; omega
  · have := hQ a z; unfold QG; omega
  · have bq := i13 q hq heq
    have b3 := bq.1
    have d2 := bk_dj bq bl (by have := i2.1; omega) (by omega) (by omega)
    obtain ⟨r1, r2, r3⟩ := i6 q hq heq
    exact ⟨rb_fx F (fun a h1 h2 z => by have := hQ a z; omega) r1, rn_fx F (fun z => by have := hP _ z; omega) (fun z => by have := hP _ z; omega) r2, sn_fx F (fun a h1 h2 z => by have := hP a z; omega) r3⟩
/-- the reference's work in its own workplaces -/
theorem ig_wk {b : Nat} {h h' : Hp} {c nl ns nr s1 : Nat} {Lw nv nn Ob : Nat → Nat} {ex : Nat → Bool} {rl : Nat → Nat} {Rc : Nat → RecT} {τ : Nat → Nat} (I : IG b h c 9 nl ns nr Lw nv nn Ob ex rl Rc τ) (F : Fs h h' (c + 66) 8) : IG b h' c 9 nl ns nr Lw nv nn Ob ex rl Rc τ := ig_fs I (Or.inr rfl) (by omega) F
theorem op_between {b : Nat} {h : Hp} {c : Nat} (I0 : INV b h c) (hb : b ≤ 64) (p0 p1 : Int32) (p2 : Int64) (p3 : Int32) : ∃ a h1 h2, f_X8_between c p0 p1 p2 p3 h = some (a, h1) ∧ f_X9_between (c + 66) p0 p1 p2 p3 h1 = some (a, h2) ∧ INV (b + 1) h2 c := by
  have Ib := inv_mono (b' := b + 1) (by omega) I0
  obtain ⟨nl, ns, nr, Lw, nv, nn, Ob, ex, rl, Rc, τ, I⟩ := I0
  have X := I.1.1
  have te := I.1.2.1
  have H := I.1.2.2.2.2.2.2.2
  have nr4 := I.2.1.2.2.1
  unfold f_X8_between f_X9_between f_X8_between_40 f_X9_between_49 f_X8_between_66 f_X9_between_75 f_X9_between_92
  rcases in_cases p0 (N := nr) (by omega) with ⟨s, hs, rfl⟩ | hv
  · obtain ⟨s4, he, hl, si, W⟩ := sl I hs
    have B := W.2.1
    obtain ⟨hn, hn1, hN, l8, e1, e3, en, eN, -⟩ := wr_nv W
    obtain ⟨sd, al, R, C, va, r0⟩ := si
    have rl' := rr_l R al
    have b1 := (I.2.2.2.2.2.2.2.2.2.2.2.2 s (by omega) he).1
    simp only [xo_ck X, Option.bind_some, c_runAt_ok I hs, bnd_some]
    rw [if_neg (show ¬ some (Ob s) = none by simp), rb_g0 B, Option.bind_some, r0, lo_ck W.1.2.1, Option.bind_some]
    rcases in_cases p1 (N := nv (rl s)) (by omega) with ⟨i, hi, rfl⟩ | hv
    · have pre : ∀ g : Hp, RO g (c + 66) → hpI g (c + 66) 45 = nI nr → hpI g (c + 66 + 14) s = nI (rl s) → hpI g (c + 66 + 1) (rl s) = nI (nv (rl s)) → ∀ f : Hp → Option (Int64 × Hp), ((ab_ck g (some (c + 66)) (9, 0)).bind fun a4 => bnd (f_X9_isRun a4 (nI s) g) fun x1 h2 => if x1 = 0 then some (9221120237041090560, h2) else (getR h2 (some (c + 66)) 9 0).bind fun x7 => (getR h2 (some (c + 66)) 9 15).bind fun x8 => (aldI h2 x8 11 (nI s)).bind fun x9 => (aldI h2 x7 11 x9).bind fun x10 => bnd (f_X9_in (nI i) 0 (x10 - 1) h2) fun x11 h12 => if x11 = 0 then some (9221120237041090560, h12) else f h12) = f g := fun g Hg h45 h14 h3 f => by
        rw [ro_ck Hg, Option.bind_some, r_isRun_h Hg h45 hs nr4, bnd_some, if_neg (by decide), ro_g0 Hg, Option.bind_some, ro_g15 Hg, Option.bind_some, ro_a15 Hg (by omega), Option.bind_some, h14, ro_a0 Hg l8, Option.bind_some, h3, r_in_ok hi (by omega), bnd_some, if_neg (by decide)]
      have pre0 := pre h H I.2.1.2.2.2.2.2.2.2.2 rl' e1
      rw [hasV_ok W.1.2.1 en hi hn, bnd_some, if_neg (by decide), rb_gi B, Option.bind_some, (cr_h C).2.2.2.2.2.2.1]
      obtain ⟨tk, t1, t2, t3⟩ := va.2.2.1
      rcases va.2.2.2.2.2.1 with st | st
      · have tk0 : tk = 0 := by
          have : ¬ 0 < tk := fun z => absurd (t3.mpr z) (by rw [st]; decide)
          omega
        rw [t1, tk0, if_pos (by decide)]
        refine ⟨_, h, h, rfl, ?_, Ib⟩
        refine (pre0 _).trans ?_
        rw [ro_g23 H, Option.bind_some, ro_a23 H (by omega), Option.bind_some, R.1 22 (by omega) (by omega), st, if_pos rfl]
      · have tk0 : ¬ (Rc s).1 17 0 = 0 := by
          rw [t1]
          intro z
          have b1 := t3.mp st
          rw [li0, ni_eq (by omega) (by omega)] at z
          omega
        rw [if_neg tk0]
        have pre2 : ∀ g : Hp, RO g (c + 66) → hpI g (c + 66 + 22) s = 1 → ∀ Y : Option (Int64 × Hp), ((getR g (some (c + 66)) 9 23).bind fun x15 => (aldI g x15 12 (nI s)).bind fun x16 => if x16 = 0 then some (9221120237041090560, g) else Y) = Y := fun g Hg h22 f => by
          rw [ro_g23 Hg, Option.bind_some, ro_a23 Hg (by omega), Option.bind_some, h22, if_neg (by decide)]
        have pre20 := pre2 h H (by rw [R.1 22 (by omega) (by omega)]; exact st)
        rcases k_cases p3 with ⟨k, hk, rfl⟩ | hv
        · rw [(isK_ok hk h).1, bnd_some, if_pos (by decide), (c_quo hk h).1, bnd_some]
          have fq : Fn (qV p2 (nI k)) := qV_fn (p := p2) hk
          show ∃ a h1 h2, (if cg (qV p2 (nI k)) FP.dconst0 < 0 then some ((9221120237041090560 : Int64), h) else _) = some (a, h1) ∧ _ ∧ _
          by_cases z1 : cg (qV p2 (nI k)) FP.dconst0 < 0
          · rw [if_pos z1]
            refine ⟨_, h, h, rfl, ?_, Ib⟩
            refine ((pre0 _).trans (pre20 _)).trans ?_
            rw [(isK_ok hk _).2, bnd_some, if_pos (by decide), (c_quo hk _).2, bnd_some]
            exact if_pos z1
          · rw [if_neg z1]
            show ∃ a h1 h2, (if cl (qV p2 (nI k)) FP.dconst1 ≤ 0 then _ else some ((9221120237041090560 : Int64), h)) = some (a, h1) ∧ _ ∧ _
            by_cases z2 : cl (qV p2 (nI k)) FP.dconst1 ≤ 0
            · rw [if_pos z2]
              obtain ⟨⟨M, eM, hM⟩, -, va9⟩ := va.2.2.2.2.2.2.2.2.2.2.2.2.2.2 st
              obtain ⟨d1, d2, d3, d4, d5, d6⟩ := cr_st C st
              have sb : SB (qV p2 (nI k)) := by
                have k0 : ky FP.dconst0 = 0 := by decide +kernel
                have k1 : ky FP.dconst1 = 4607182418800017408 := by decide +kernel
                have n0 : Nm FP.dconst0 := by show (ky _).natAbs ≤ _; rw [k0]; decide
                have n1 : Nm FP.dconst1 := by show (ky _).natAbs ≤ _; rw [k1]; decide
                have u1 := (cg_ge_n fq.nm n0).mp (Int32.not_lt.mp z1)
                have u2 := (cl_le_n fq.nm n1).mp z2
                rw [k0] at u1
                rw [k1] at u2
                show (ky _).natAbs < _
                omega
              have e12 : hpR h (Ob s + 12) 1 = some (Lw (rl s)) := by rw [d1]; exact r0
              have WT0 := wr_wt W e12
              obtain ⟨q1, q2, q3, q4⟩ := d3.2.2 i hi
              obtain ⟨h1, eb, WT1, F1, v1⟩ := c_blend WT0 hi sb d3.2.1 va.2.2.2.2.2.2.2.2.2.2.2.1 rfl q1 q2 q3 q4
              have W1 := wr_row W i4 F1 WT1
              have npa : ∀ a, (a < c + 124) → a ≠ c + 1 → ¬ Pd (c + 1) (Lw (rl s)) (Ob s + 12 + 4) a := fun a h1 h2 z => by
                have := (I.2.2.2.2.2.2.2.2.2.2.1 _ hl).1
                unfold Pd Pn Pr at z; omega
              have C1 : CR h1 (Ob s) (nv (rl s)) (Rc s) := cr_fr C F1 (fun a h1 h2 h3 h4 h5 z => by
                have := (I.2.2.2.2.2.2.2.2.2.2.1 _ hl)
                have dj := bk_dj (I.2.2.2.2.2.2.2.2.2.2.2.2 s (by omega) he) this (by have := I.2.1.1; omega) (by omega) (by omega)
                unfold Pd Pn Pr at z; omega)
              have V : AV h h1 c (c + 66) (rl s) (nv (rl s)) ns (nn (rl s)) (Lw (rl s)) (Ob s) (Rc s) := by
                refine ⟨xo_fx (Q := fun _ => False) F1.fx (fun z => z) (fun z => z) X, W1, fr_S0 F1 I.1.2.2.2.1, sn_fx (F1.fx (Q := fun _ => False)) (fun a h1 h2 => npa a (by omega) (by omega)) I.1.2.2.2.2.1, C1, (F1.mono (fun a z => ?_)).fx⟩
                unfold PX PR
                rcases z with z | z
                · exact Or.inl (Or.inl z)
                · unfold Pr at z; exact Or.inl (Or.inr (by omega))
              have I1 := ig_av (ig_weak (s0 := s) I) (by omega) he hl V
              have H1 := ro_fr F1 H
              have fe : ∀ o, o < 58 → hpI h1 (c + 66 + o) = hpI h (c + 66 + o) ∧ hpD h1 (c + 66 + o) = hpD h (c + 66 + o) := fun o ho => F1.2.2.2 _ (npa _ (by omega) (by omega))
              have R1 : RR h1 (c + 66) s (nv (rl s)) (Rc s) := rr_eq (fun o _ ho => fe o (by omega)) R
              have f2 : hpI h1 (c + 66 + 2) (rl s) = hpI h (c + 66 + 2) (rl s) := by rw [(fe 2 (by omega)).1]
              have X1 := I1.1.1
              have te1 := I1.1.2.1
              rw [rb_g11 B, Option.bind_some, st_ck WT0.2.1, Option.bind_some, eb, bnd_some, xo_g1 X1, Option.bind_some, rb_g11 W1.2.1, Option.bind_some, st_g7 WT1.2.1, Option.bind_some, xo_tk X1, Option.bind_some, c_told X1 te1 (s0_r (rb_s0 W1.2.1) i4) (W1.2.2.2.1 4 i4) (show i < 6 by omega) (by omega), bnd_some, v1, if_pos rfl]
              refine ⟨_, h1, h1, rfl, ?_, ?_⟩
              · refine ((pre h1 H1 (by rw [(F1.2.2.2 _ (npa _ (by omega) (by omega))).1]; exact I.2.1.2.2.2.2.2.2.2.2) (rr_l R1 al) (by rw [(fe 1 (by omega)).1]; exact e1) _).trans (pre2 h1 H1 (by rw [R1.1 22 (by omega) (by omega)]; exact st) _)).trans ?_
                rw [(isK_ok hk _).2, bnd_some, if_pos (by decide), (c_quo hk _).2, bnd_some]
                refine (if_neg z1).trans ((if_pos z2).trans ?_)
                rw [ro_ck H1, Option.bind_some, r_cubic H1 (by omega) R1 st al l8 va.2.2.2.2.2.2.2.2.2.2.2.1 hi hn sb, bnd_some, r_bits, bnd_some, f2]
              · exact sl_done (ig_mono (b' := b + 1) (by omega) I1) (by omega) (fun _ => hs) he hl (Fs.refl _ _ _) (me_sd (fun o _ ho => fe o (by omega)) sd) al R1 C1 (va.mono (by omega) (by omega)) W1.2.2.2.2.2
            · rw [if_neg z2]
              refine ⟨_, h, h, rfl, ?_, Ib⟩
              refine ((pre0 _).trans (pre20 _)).trans ?_
              rw [(isK_ok hk _).2, bnd_some, if_pos (by decide), (c_quo hk _).2, bnd_some]
              exact (if_neg z1).trans (if_neg z2)
        · rw [(isK_no hv h).1, bnd_some, if_neg (by decide)]
          refine ⟨_, h, h, rfl, ?_, Ib⟩
          refine ((pre0 _).trans (pre20 _)).trans ?_
          rw [(isK_no hv _).2, bnd_some, if_neg (by decide)]
    · rw [hasV_no W.1.2.1 en hv, bnd_some, if_pos rfl]
      refine ⟨_, h, h, rfl, ?_, Ib⟩
      rw [ro_ck H, Option.bind_some, r_isRun_ok I hs, bnd_some, if_neg (by decide), ro_g0 H, Option.bind_some, ro_g15 H, Option.bind_some, ro_a15 H (by omega), Option.bind_some, rl', ro_a0 H l8, Option.bind_some, e1, r_in_no (by omega) hv, bnd_some, if_pos rfl]
  · simp only [xo_ck X, Option.bind_some, c_runAt_no I hv, bnd_some]
    rw [if_pos trivial]
    refine ⟨_, h, h, rfl, ?_, Ib⟩
    rw [ro_ck H, Option.bind_some, r_isRun_no I hv, bnd_some, if_pos rfl]
