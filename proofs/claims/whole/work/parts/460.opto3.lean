theorem ig_89 {b : Nat} {h : Hp} {c s0 nl ns nr : Nat} {Lw nv nn Ob : Nat → Nat} {ex : Nat → Bool} {rl : Nat → Nat} {Rc : Nat → RecT} {τ : Nat → Nat} (I : IG b h c 8 nl ns nr Lw nv nn Ob ex rl Rc τ) : IG b h c s0 nl ns nr Lw nv nn Ob ex rl Rc τ := by
  obtain ⟨i1, i2, i3, i4, i5, i6, i7, i8⟩ := I
  exact ⟨i1, i2, i3, i4, i5, i6, fun s h1 h2 _ => i7 s h1 h2 (by omega), i8⟩
theorem op_to {b : Nat} {h : Hp} {c : Nat} (I0 : INV b h c) (hb : b ≤ 64) (p0 : Int32) (p1 : Int64) (p2 p3 : Int32) : ∃ a h1 h2, f_X8_to c p0 p1 p2 p3 h = some (a, h1) ∧ f_X9_to (c + 66) p0 p1 p2 p3 h1 = some (a, h2) ∧ INV (b + 1) h2 c := by
  have Ib := inv_mono (b' := b + 1) (by omega) I0
  obtain ⟨nl, ns, nr, Lw, nv, nn, Ob, ex, rl, Rc, τ, I⟩ := I0
  have X := I.1.1
  have H := I.1.2.2.2.2.2.2.2
  have nr4 := I.2.1.2.2.1
  unfold f_X8_to f_X9_to f_X8_to_34 f_X9_to_31
  rcases in_cases p0 (N := nr) (by omega) with ⟨s, hs, rfl⟩ | hv
  · obtain ⟨s4, he, hl, si, W⟩ := sl I hs
    have B := W.2.1
    obtain ⟨hn, hn1, hN, l8, e1, e3, en, eN, -⟩ := wr_nv W
    obtain ⟨sd, al, R, C, va, r0⟩ := si
    simp only [xo_ck X, Option.bind_some, c_runAt_ok I hs, bnd_some]
    rw [if_neg (show ¬ some (Ob s) = none by simp)]
    rcases k_cases p2 with ⟨k, hk, rfl⟩ | hv
    · rw [(isK_ok hk h).1, bnd_some, if_neg (by decide)]
      by_cases zc : 1 ≤ p3 ∧ p3 ≤ 200
      · obtain ⟨Cn, hC, rfl⟩ := ni_of3 (n := 201) (x := p3) (by omega) (by
          have := zc.1
          rw [Int32.le_iff_toInt_le] at this ⊢
          have e : (1 : Int32).toInt = 1 := by decide
          have e0 : (0 : Int32).toInt = 0 := by decide
          omega) (by
          have := zc.2
          rw [Int32.le_iff_toInt_le] at this
          rw [Int32.lt_iff_toInt_lt, ni_toInt (by omega)]
          have e : (200 : Int32).toInt = 200 := by decide
          omega)
        rw [if_neg (Int32.not_lt.mpr zc.1), if_pos zc.2, rb_gi B, Option.bind_some, (cr_h C).2.2.2.2.2.1]
        have inC : ∀ g : Hp, f_X9_in (nI Cn) 1 200 g = some (1, g) := fun g => by rw [r_in, if_pos zc]
        by_cases z21 : (Rc s).1 21 0 = 0
        · have fe : Fn (qV p1 (nI k)) := qV_fn hk
          have nz : qV p1 (nI k) ≠ mz := (qV_b hk).2.1
          rw [if_pos z21, (c_quo hk h).1, bnd_some, rb_gd B, Option.bind_some, (cr_h C).1]
          generalize qe : qV p1 (nI k) = endv at fe nz
          have nt : Nm ((Rc s).2 24 0) := va.2.2.2.2.2.2.1.1
          have fh : HB ((Rc s).2 25 0) := va.2.2.2.2.2.2.2.1
          have nd := (hb_begR (A := Rc s) fe nt fh).1
          have sg := sub_sg2 fe nt
          have k0 : ky FP.dconst0 = 0 := by decide +kernel
          have n0 : Nm FP.dconst0 := by show (ky _).natAbs ≤ _; rw [k0]; decide
          have cz : cl (FP.dsub endv ((Rc s).2 24 0)) FP.dconst0 = 0 ↔ cl endv ((Rc s).2 24 0) = 0 := by
            rw [cl_eq, cl_eq, k0]
            constructor
            · intro z; exact ⟨⟨fe.nm, nt⟩, sg.2.mp z.2⟩
            · intro z; exact ⟨⟨nd, n0⟩, sg.2.mpr z.2⟩
          have cgz : 0 ≤ cg (FP.dsub endv ((Rc s).2 24 0)) FP.dconst0 ↔ 0 ≤ cg endv ((Rc s).2 24 0) := by
            rw [cg_ge_n nd n0, cg_ge_n fe.nm nt, k0]
            have := sg.1
            omega
          have head : ∀ g : Hp, RO g (c + 66) → hpI g (c + 66) 45 = nI nr → RR g (c + 66) s (nv (rl s)) (Rc s) → ∀ Y1 Y2 Y3 : UInt64 → UInt64 → Hp → Option (Int32 × Hp), ((ab_ck g (some (c + 66)) (9, 0)).bind fun a4 => bnd (f_X9_isRun a4 (nI s) g) fun x1 h2 => if x1 = 0 then some (-1, h2) else bnd (f_X9_in (nI k) 0 30 h2) fun x7 h8 => if x7 = 0 then some (-1, h8) else bnd (f_X9_in (nI Cn) 1 200 h8) fun x11 h12 => if ¬ x11 = 0 then (getR h12 (some (c + 66)) 9 22).bind fun x15 => (aldI h12 x15 12 (nI s)).bind fun x16 => if x16 = 0 then bnd (f_X9_number p1 (nI k) h12) fun x18 h19 => (getR h19 (some (c + 66)) 9 25).bind fun x21 => (aldD h19 x21 (nI s)).bind fun x22 => (fop (FP.dsub x18 x22)).bind fun x23 => if cl x23 FP.dconst0 = 0 then Y1 x18 x23 h19 else if 0 ≤ cg x23 FP.dconst0 then Y2 x18 x23 h19 else Y3 x18 x23 h19 else some (-2, h12) else some (-1, h12)) = (if cl endv ((Rc s).2 24 0) = 0 then Y1 endv (FP.dsub endv ((Rc s).2 24 0)) g else if 0 ≤ cg endv ((Rc s).2 24 0) then Y2 endv (FP.dsub endv ((Rc s).2 24 0)) g else Y3 endv (FP.dsub endv ((Rc s).2 24 0)) g) := by
            intro g Hg h45 Rg Y1 Y2 Y3
            rw [ro_ck Hg, Option.bind_some, r_isRun_h Hg h45 hs nr4, bnd_some, if_neg (by decide), (isK_ok hk g).2, bnd_some, if_neg (by decide), inC, bnd_some, if_pos (by decide), ro_g22 Hg, Option.bind_some, ro_a22 Hg (by omega), Option.bind_some, Rg.1 21 (by omega) (by omega), if_pos z21, (c_quo hk g).2, bnd_some, qe, ro_g25 Hg, Option.bind_some, ro_a25 Hg (by omega), Option.bind_some, Rg.2.2.1 24 (by omega) (by omega), fop_ok nd, Option.bind_some]
            by_cases w1 : cl endv ((Rc s).2 24 0) = 0
            · rw [if_pos w1, if_pos (cz.mpr w1)]
            · rw [if_neg w1, if_neg (fun w => w1 (cz.mp w))]
              by_cases w2 : 0 ≤ cg endv ((Rc s).2 24 0)
              · rw [if_pos w2, if_pos (cgz.mpr w2)]
              · rw [if_neg w2, if_neg (fun w => w2 (cgz.mp w))]
          have i45 := I.2.1.2.2.2.2.2.2.2.2
          by_cases z1 : cl endv ((Rc s).2 24 0) = 0
          · obtain ⟨h2, e2, F2, R2⟩ := r_copies H (show s < 9 by omega) (show 8 < 9 by omega) (by omega) hn R va.2.2.2.2.1 va.2.2.2.2.2.1
            refine ⟨0, h, h2, ?_, ?_, ⟨nl, ns, nr, Lw, nv, nn, Ob, ex, rl, Rc, τ, ig_mono (by omega) (ig_fs I (Or.inr rfl) (by omega) F2)⟩⟩
            · exact if_neg (fun w => w z1)
            · refine (head h H i45 R _ _ _).trans ?_
              rw [if_pos z1]
              show f_X9_to_105 (some (c + 66)) (nI s) (nI Cn) endv (FP.dsub endv ((Rc s).2 24 0)) h = _
              unfold f_X9_to_105
              rw [ro_ck H, Option.bind_some, show (8 : Int32) = nI 8 from rfl, e2, bnd_some]
              show f_X9_to_115 (999 + 1) (some (c + 66)) (nI s) (nI Cn) endv (FP.dsub endv ((Rc s).2 24 0)) 0 h2 = _
              unfold f_X9_to_115 f_X9_to_222
              exact if_pos (cz.mpr z1)
          · have go : ∃ a h1 h2, ((ab_ck h (some c) (8, 0)).bind fun a5 => bnd (f_X8_store a5 (some (Ob s)) 4 h) fun x2 h3 => f_X8_to_117 fuelN (some c) (nI Cn) (some (Ob s)) endv x2 0 h3) = some (a, h1) ∧ f_X9_to_105 (some (c + 66)) (nI s) (nI Cn) endv (FP.dsub endv ((Rc s).2 24 0)) h1 = some (a, h2) ∧ INV (b + 1) h2 c ∧ RO h1 (c + 66) ∧ hpI h1 (c + 66) 45 = nI nr ∧ RR h1 (c + 66) s (nv (rl s)) (Rc s) := by
              obtain ⟨r', g1, Ob', ex', τ', ec, I1, eO, eX, eQ, r01, C1, fe1, H1⟩ := c_store I hs (show 4 < 5 by omega)
              have fl : flg g1 c 4 = g1 := by unfold flg; rw [if_neg (by omega)]
              rw [fl] at I1
              have I1s := ig_89 (s0 := 9) I1
              obtain ⟨s4', he', hl', si', W'⟩ := sl I1s hs
              obtain ⟨sd', al', R', C', va', r0'⟩ := si'
              have me : ME h g1 (c + 66) := fun o _ ho => fe1 o (by omega)
              obtain ⟨g2, e2, I2, r2, CC2, fx2⟩ := c_to117 (b := b) (F := fR h (c + 66) (rl s) (nn (rl s))) (V := nvR h (c + 66) (rl s) (nn (rl s))) (nar := hpI h (c + 66 + 2) (rl s)) (C := Cn) (A0 := Rc s) (endv := endv) (hX := h) s4 hl he' eX fe nz (by omega) hn va.2.2.2.2.1 Cn 0 fuelN (200 * b) (800 * b) (Rc s) g1 (by omega) (by unfold fuelN; omega) (by omega) (by omega) (ig_89 (s0 := s) I1) W' C' va' (by rw [show (8 : Nat) = 4 + 4 from rfl, eO]; exact C1) (by rw [show (8 : Nat) = 4 + 4 from rfl, eO]; exact r01) fe1 (me_fR me) (me_nvR me) (me_nar me)
              have H2 := I2.1.2.2.2.2.2.2.2
              have R2 : RR g2 (c + 66) s (nv (rl s)) (Rc s) := rr_eq (fun o _ ho => fx2 o (by omega)) R
              have me2 : ME h g2 (c + 66) := fun o _ ho => fx2 o (by omega)
              obtain ⟨g3, e3', F3, R3⟩ := r_copies H2 (show s < 9 by omega) (show 8 < 9 by omega) (by omega) hn R2 va.2.2.2.2.1 va.2.2.2.2.2.1
              have X2 : SX g2 (c + 66) (rl s) (nv (rl s)) ns (nn (rl s)) := by
                have x0 := W.1.2.2.1
                exact ⟨H2, me_lw me2 x0.2.1, me_sg me2 x0.2.2.1, me_sv me2 x0.2.2.2.1, me_sd me2 x0.2.2.2.2⟩
              have X3 := le_SX F3.2.1 X2
              have R3s := F3.2.2.2.2.2 s (by omega) _ _ hn R2
              obtain ⟨g4, e4, F4, R4, v4, a4⟩ := r_to115 (F := fR h (c + 66) (rl s) (nn (rl s))) (V := nvR h (c + 66) (rl s) (nn (rl s))) (nar := hpI h (c + 66 + 2) (rl s)) (C := Cn) (A0 := Rc s) (endv := endv) (h0 := g3) (show s < 8 by omega) fe nz (by omega) va.2.2.2.2.1 va.2.2.2.2.2.1 Cn 0 fuelN (200 * b) (800 * b) (Rc s) g3 (by omega) (by unfold fuelN; omega) (by omega) (by omega) X3 R3s R3 va (va.mono (by omega) (by omega)) al al (Fs.refl _ _ _) (by rw [le_fR F3.2.1, me_fR me2]) (by rw [le_nvR F3.2.1, me_nvR me2]) (by rw [le_nar F3.2.1, me_nar me2])
              refine ⟨(toR (fR h (c + 66) (rl s) (nn (rl s))) (nvR h (c + 66) (rl s) (nn (rl s))) (hpI h (c + 66 + 2) (rl s)) (nv (rl s)) endv (Rc s) Cn 0 (Rc s)).1, g2, g4, ?_, ?_, ?_, H2, ?_, R2⟩
              · rw [xo_ck X, Option.bind_some, show (4 : Int32) = nI 4 from rfl, ec, bnd_some, ← eO]
                rw [eQ s s4] at e2
                exact e2
              · unfold f_X9_to_105
                rw [ro_ck H2, Option.bind_some, show (8 : Int32) = nI 8 from rfl, e3', bnd_some]
                exact e4
              · have I3 := ig_fs I2 (Or.inr rfl) (by omega) F3
                refine sl_done (l := rl s) (ig_mono (b' := b + 1) (by omega) I3) (by omega) (fun _ => hs) he' hl F4 (me_sd (me_trans me2 (fs_me F3)) sd) a4 R4 ?_ (v4.mono (by omega) (by omega)) (by rw [F3.2.1.2.1]; exact r2)
                have b1 := (I3.2.2.2.2.2.2.2.2.2.2.2.2 s (by omega) he').1
                exact cr_fx CC2 (fs_fx F3) (fun a h1 h2 z => by omega) (fun _ _ _ z => z)
              · rw [show c + 66 = c + 66 + 0 from rfl, (fx2 0 (by omega)).1]; exact i45
            have c84 : ∀ u : Int32, f_X8_to_84 (some c) (nI Cn) (some (Ob s)) endv u h = if u = (if 0 ≤ cg ((Rc s).2 25 0) FP.dconst0 then 0 else 1) then ((ab_ck h (some c) (8, 0)).bind fun a5 => bnd (f_X8_store a5 (some (Ob s)) 4 h) fun x2 h3 => f_X8_to_117 fuelN (some c) (nI Cn) (some (Ob s)) endv x2 0 h3) else some (-2, h) := fun u => by
              unfold f_X8_to_84 f_X8_to_99
              rw [rb_gd B, Option.bind_some, (cr_h C).2.2.1]
              by_cases w : 0 ≤ cg ((Rc s).2 25 0) FP.dconst0
              · simp only [if_pos w]
              · simp only [if_neg w]
            have r83 : ∀ (u : Int32) (g : Hp), RO g (c + 66) → RR g (c + 66) s (nv (rl s)) (Rc s) → f_X9_to_83 (some (c + 66)) (nI s) (nI Cn) endv (FP.dsub endv ((Rc s).2 24 0)) u g = if u = (if 0 ≤ cg ((Rc s).2 25 0) FP.dconst0 then 0 else 1) then f_X9_to_105 (some (c + 66)) (nI s) (nI Cn) endv (FP.dsub endv ((Rc s).2 24 0)) g else some (-2, g) := fun u g Hg Rg => by
              unfold f_X9_to_83 f_X9_to_99
              rw [ro_g26 Hg, Option.bind_some, ro_a26 Hg (by omega), Option.bind_some, Rg.2.2.1 25 (by omega) (by omega)]
              by_cases w : 0 ≤ cg ((Rc s).2 25 0) FP.dconst0
              · simp only [if_pos w]
              · simp only [if_neg w]
            have z1' : ¬ (Op.cmpValue (FP.dcmp endv ((Rc s).2 24 0)) CmpOp.l) = 0 := z1
            rw [if_pos z1', Option.bind_some]
            have fin : ∀ u : Int32, (∀ g : Hp, RO g (c + 66) → hpI g (c + 66) 45 = nI nr → RR g (c + 66) s (nv (rl s)) (Rc s) → f_X9_to (c + 66) (nI s) p1 (nI k) (nI Cn) g = f_X9_to_83 (some (c + 66)) (nI s) (nI Cn) endv (FP.dsub endv ((Rc s).2 24 0)) u g) → ∃ a h1 h2, f_X8_to_84 (some c) (nI Cn) (some (Ob s)) endv u h = some (a, h1) ∧ f_X9_to (c + 66) (nI s) p1 (nI k) (nI Cn) h1 = some (a, h2) ∧ INV (b + 1) h2 c := by
              intro u hu
              rw [c84]
              by_cases w : u = (if 0 ≤ cg ((Rc s).2 25 0) FP.dconst0 then 0 else 1)
              · obtain ⟨a, h1, h2, g1, g2, g3, g4, g5, g6⟩ := go
                rw [if_pos w]
                exact ⟨a, h1, h2, g1, by rw [hu h1 g4 g5 g6, r83 u h1 g4 g6, if_pos w]; exact g2, g3⟩
              · rw [if_neg w]
                exact ⟨_, h, h, rfl, by rw [hu h H i45 R, r83 u h H R, if_neg w], Ib⟩
            by_cases w2 : 0 ≤ cg endv ((Rc s).2 24 0)
            · have w2' : 0 ≤ (Op.cmpValue (FP.dcmp endv ((Rc s).2 24 0)) CmpOp.g) := w2
              rw [if_pos w2']
              exact fin 0 (fun g Hg h45 Rg => by
                unfold f_X9_to f_X9_to_31
                refine (head g Hg h45 Rg _ _ _).trans ?_
                rw [if_neg z1, if_pos w2])
            · have w2' : ¬ 0 ≤ (Op.cmpValue (FP.dcmp endv ((Rc s).2 24 0)) CmpOp.g) := w2
              rw [if_neg w2']
              exact fin 1 (fun g Hg h45 Rg => by
                unfold f_X9_to f_X9_to_31
                refine (head g Hg h45 Rg _ _ _).trans ?_
                rw [if_neg z1, if_neg w2])
        · rw [if_neg z21]
          refine ⟨_, h, h, rfl, ?_, Ib⟩
          rw [ro_ck H, Option.bind_some, r_isRun_ok I hs, bnd_some, if_neg (by decide), (isK_ok hk h).2, bnd_some, if_neg (by decide), inC, bnd_some, if_pos (by decide), ro_g22 H, Option.bind_some, ro_a22 H (by omega), Option.bind_some, R.1 21 (by omega) (by omega), if_neg z21]
      · refine ⟨-1, h, h, ?_, ?_, Ib⟩
        · by_cases q : p3 < 1
          · rw [if_pos q]
          · rw [if_neg q, if_neg (fun w => zc ⟨Int32.not_lt.mp q, w⟩)]
        · rw [ro_ck H, Option.bind_some, r_isRun_ok I hs, bnd_some, if_neg (by decide), (isK_ok hk h).2, bnd_some, if_neg (by decide), r_in, if_neg zc, bnd_some, if_neg (by decide)]
    · refine ⟨-1, h, h, ?_, ?_, Ib⟩
      · rw [(isK_no hv h).1, bnd_some, if_pos (by decide)]
      · rw [ro_ck H, Option.bind_some, r_isRun_ok I hs, bnd_some, if_neg (by decide), (isK_no hv h).2, bnd_some, if_pos (by decide)]
  · simp only [xo_ck X, Option.bind_some, c_runAt_no I hv, bnd_some]
    rw [if_pos trivial]
    refine ⟨_, h, h, rfl, ?_, Ib⟩
    rw [ro_ck H, Option.bind_some, r_isRun_no I hv, bnd_some, if_pos rfl]
