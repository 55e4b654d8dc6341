/-! ===== the reference goes a step ===== -/
theorem nm_of_pV {b : Bool} {x y : UInt64} (h : Fn (pV b (cn (FP.dadd x y)))) : Nm x := by
  by_cases q : Nm x
  · exact q
  · have : ¬ Nm (FP.dadd x y) := fun z => q (dadd_nm.mp z).1
    rw [cn_no this] at h
    unfold pV at h
    rw [if_neg (fun z => nm_nanV z.2)] at h
    exact absurd h.nm nm_nanV
theorem cv_zS {F : FT} {nar : Int32} {n M : Nat} {t h : UInt64} {x : Nat → UInt64} (hx : ∀ i, i < n → Cv (x i)) : ∀ i, i < n → Cv (zS F nar n M t h x i) := by
  intro i hi
  unfold zS
  split
  · exact cv_mvV _ _ _ _ _
  · exact cv_mvV _ _ _ _ _
  · exact cv_mvV _ _ _ _ _
  · exact cv_mvV _ _ _ _ _
  · exact cv_mvV _ _ _ _ _
  · exact cv_zB _ _ _ _ _ _ _
  · unfold zL
    split
    · exact cv_z1L hx i hi
    · exact cv_mvV _ _ _ _ _
theorem r_goes_64 {h0 : Hp} {m s l n ns N M : Nat} {A : RecT} {cut : Int32} {endv : UInt64} (X : SX h0 m l n ns N) (hs : s < 9) (hM : A.1 15 0 = nI M) (hM6 : M ≤ 6) (nt : Nm (A.2 24 0)) (hx : ∀ i, i < n → Cv (A.2 29 i)) :
    ∀ (d no fuel : Nat) (hh v12 : UInt64) (h : Hp), no + d = 20 → d + 1 < fuel → HB hh → Fs h0 h m s → RR h m s n A → (∀ i, i < n → hpD h (m + 45) i = A.2 29 i) →
      (let r := attS (fR h0 m l N) (hpI h0 (m + 2) l) n M (A.2 24 0) (A.2 29) (A.2 26 0) (A.2 27 0) d no hh
       (r.1 ≠ 0 → ∃ h', f_X9_goes_64 fuel (some m) (nI s) cut endv (nI l) (nI n) (nI no) hh v12 0 h = some (r.1, h') ∧ Fs h0 h' m s ∧ RR h' m s n A) ∧
       (r.1 = 0 → ∃ h', f_X9_goes_64 fuel (some m) (nI s) cut endv (nI l) (nI n) (nI no) hh v12 0 h = (bnd (f_X9_looksAtEvents m (nI s) h') fun _ h3 => some (nI r.2.1, h3)) ∧ Fs h0 h' m s ∧ RR h' m s n (tkS A (fR h0 m l N) (hpI h0 (m + 2) l) n M r.2.1 r.2.2.1 r.2.2.2 (decide (cut ≠ 0 ∧ r.2.1 = 0)) endv))) := by
  have hn := X.2.1.2.2.2.1
  have hl := X.2.1.1
  generalize hF : fR h0 m l N = F
  generalize hnr : hpI h0 (m + 2) l = nar
  intro d
  induction d with
  | zero =>
    intro no fuel hh v12 h hno hf fh Fh R hfr
    obtain ⟨fuel, rfl⟩ : ∃ j, fuel = j + 1 := ⟨fuel - 1, by omega⟩
    have : no = 20 := by omega
    subst this
    dsimp only
    rw [attS]
    refine ⟨fun _ => ⟨h, ?_, Fh, R⟩, fun q => absurd q (by show ¬ (-5 : Int32) = 0; decide)⟩
    rw [f_X9_goes_64, if_neg (by decide), if_neg (by decide)]
  | succ d ih =>
    intro no fuel hh v12 h hno hf fh Fh R hfr
    obtain ⟨fuel, rfl⟩ : ∃ j, fuel = j + 1 := ⟨fuel - 1, by omega⟩
    obtain ⟨r1, r2, r3, r4, r5, r6, r7, r8, r9⟩ := id R
    have H := le_RO Fh.2.1 X.1
    have X1 := le_SX Fh.2.1 X
    have f1 : fR h m l N = F := by rw [le_fR Fh.2.1, hF]
    have n1 : hpI h (m + 2) l = nar := by rw [le_nar Fh.2.1, hnr]
    have xr : ∀ i, i < n → Cv (hpD h (m + 45) i) := fun i hi => by rw [hfr i hi]; exact hx i hi
    obtain ⟨w, h1, e1, S1, cw, iw, k1, z1, ee1, g1, bw⟩ := r_made' (t := A.2 24 0) (hh := hh) (M := M) X1 hM6 nt fh hfr hx
    have m1 : hpI h (m + 15) s = nI M := by rw [r1 15 (by omega) (by omega), hM]
    have t1 : hpD h (m + 24) s = A.2 24 0 := r3 24 (by omega) (by omega)
    have step : f_X9_goes_64 (fuel + 1) (some m) (nI s) cut endv (nI l) (nI n) (nI no) hh v12 0 h = (if w = 0 then
          (getR h1 (some m) 9 16).bind fun x15 =>
          (aldI h1 x15 11 (nI s)).bind fun x16 =>
          if ¬ x16 = 4 then
            f_X9_goes_126 (f_X9_goes_64 fuel) (some m) (nI s) cut endv (nI l) (nI n) (nI no) hh FP.dconst0 h1
          else
            (ab_ck h1 (some m) (9, 0)).bind fun a21 =>
            bnd (f_X9_greatestRatio a21 (nI s) (nI n) h1) fun x18 h19 =>
            f_X9_goes_126 (f_X9_goes_64 fuel) (some m) (nI s) cut endv (nI l) (nI n) (nI no) hh x18 h19
        else
          some ((-4), h1)) := by
      rw [f_X9_goes_64, if_neg (by decide), if_pos (show ¬ nI no = 20 by rw [show (20 : Int32) = nI 20 from rfl, ni_eq (by omega) (by omega)]; omega), ro_g16 H, Option.bind_some, ro_a16 H hs, Option.bind_some, m1, ro_g25 H, Option.bind_some, ro_a25 H hs, Option.bind_some, t1, ro_ck H, Option.bind_some, e1, bnd_some]
    rw [step]
    rw [f1, n1] at iw k1 z1 ee1 g1
    have F1 := Fh.trans (S1.fs s)
    have R1 := S1.rr R
    have H1 := le_RO F1.2.1 X.1
    have x1 : hpD h1 (m + 45) = hpD h0 (m + 45) ∨ True := Or.inr trivial
    have m2 : hpI h1 (m + 15) s = nI M := by rw [S1.2.2.2.1 _ (by omega), m1]
    have nz : Nm (FP.dadd (A.2 24 0) hh) := add_nm2 nt fh.fn
    dsimp only
    rw [attS]
    by_cases tm : Tame F nar n M (A.2 24 0) hh (A.2 29)
    · have w0 := iw.mpr tm
      rw [if_pos w0, if_pos (tmB_t.mpr tm), ro_g16 H1, Option.bind_some, ro_a16 H1 hs, Option.bind_some, m2]
      -- the error
      have offe : (if ¬ nI M = 4 then
            f_X9_goes_126 (f_X9_goes_64 fuel) (some m) (nI s) cut endv (nI l) (nI n) (nI no) hh FP.dconst0 h1
          else
            (ab_ck h1 (some m) (9, 0)).bind fun a21 =>
            bnd (f_X9_greatestRatio a21 (nI s) (nI n) h1) fun x18 h19 =>
            f_X9_goes_126 (f_X9_goes_64 fuel) (some m) (nI s) cut endv (nI l) (nI n) (nI no) hh x18 h19) = f_X9_goes_126 (f_X9_goes_64 fuel) (some m) (nI s) cut endv (nI l) (nI n) (nI no) hh (offS F nar n M (A.2 24 0) (A.2 29) (A.2 26 0) (A.2 27 0) hh) h1 := by
        unfold offS
        by_cases q : M = 4
        · subst q
          have fz : ∀ i, i < n → Fn (zS F nar n 4 (A.2 24 0) hh (A.2 29) i) := tm.2.2.2.1
          have fe : ∀ i, i < n → Fn (eP F nar (A.2 24 0) hh (A.2 29) i) := tm.2.2.1 rfl
          have xx : ∀ i, i < n → hpD h1 (m + 45) i = A.2 29 i := fun i hi => by rw [S1.2.2.2.2.2 _ (by omega)]; exact hfr i hi
          have nx : ∀ i, i < n → Nm (A.2 29 i) := fun i hi => by
            have := fz i hi
            exact nm_of_pV this
          rw [if_neg (by decide), if_pos rfl, ro_ck H1, Option.bind_some, r_ratio H1 hs hn (fun i hi => by rw [xx i hi]; exact nx i hi) (fun i hi => by rw [z1 i hi]; exact (fz i hi).nm) (fun i hi => by rw [ee1 rfl i hi]; exact (fe i hi).nm), bnd_some, rtS_congr xx z1 (ee1 rfl), R1.2.2.1 26 (by omega) (by omega), R1.2.2.1 27 (by omega) (by omega)]
        · rw [if_pos (by rw [li4, ni_eq (by omega) (by omega)]; exact q), if_neg q]
      rw [offe]
      clear offe
      generalize ho : offS F nar n M (A.2 24 0) (A.2 29) (A.2 26 0) (A.2 27 0) hh = off
      unfold f_X9_goes_126 f_X9_goes_140
      by_cases q1 : 0 < cg off FP.dconst1
      · rw [if_pos q1, if_pos q1, if_pos rfl]
        have nx : (if 0 < cg off 4620693217682128896 then (fop (FP.ddiv hh 4616189618054758400)).bind fun x3 => f_X9_goes_174 (f_X9_goes_64 fuel) (some m) (nI s) cut endv (nI l) (nI n) (nI no) off 0 x3 h1 else (fop (FP.ddiv hh 4611686018427387904)).bind fun x4 => f_X9_goes_174 (f_X9_goes_64 fuel) (some m) (nI s) cut endv (nI l) (nI n) (nI no) off 0 x4 h1) = f_X9_goes_174 (f_X9_goes_64 fuel) (some m) (nI s) cut endv (nI l) (nI n) (nI no) off 0 (nxH hh off) h1 := by
          unfold nxH
          split
          · rw [fop_ok (hb_div fh ky_c4 (by omega)).fn.nm, Option.bind_some]
          · rw [fop_ok (hb_div fh ky_c2 (by omega)).fn.nm, Option.bind_some]
        rw [nx]
        have fx : HB (nxH hh off) := hb_nxH fh
        unfold f_X9_goes_174
        rw [r_size (Or.inl fx.fn.nm), bnd_some]
        by_cases q2 : 0 ≤ cg (mk (nxH hh off)) 4472074429978902528
        · rw [if_pos q2, if_pos q2, li1, ni_add]
          exact ih (no + 1) fuel (nxH hh off) off h1 (by omega) (by omega) fx F1 R1 (fun i hi => by rw [S1.2.2.2.2.2 _ (by omega)]; exact hfr i hi)
        · rw [if_neg q2, if_neg q2]
          exact ⟨fun _ => ⟨h1, rfl, F1, R1⟩, fun q => absurd q (by show ¬ (-5 : Int32) = 0; decide)⟩
      · rw [if_neg q1, if_neg q1, if_neg (by decide)]
        refine ⟨fun q => absurd rfl q, fun _ => ?_⟩
        obtain ⟨fuel, rfl⟩ : ∃ j, fuel = j + 1 := ⟨fuel - 1, by omega⟩
        have tk := r_take (endv := endv) (off := off) (isCut := decide (cut ≠ 0 ∧ no = 0)) (no := no) (le_SX F1.2.1 X) hs R1 hM hM6 (by omega) nt fh bw (fun i hi => by rw [S1.2.2.2.2.2 _ (by omega)]; exact hfr i hi) (by rw [le_fR F1.2.1, le_nar F1.2.1, hF, hnr]; exact k1) (by rw [le_fR F1.2.1, le_nar F1.2.1, hF, hnr]; exact z1) (fun i hi => cv_zS hx i hi) (by rw [le_fR F1.2.1, le_nar F1.2.1, hF, hnr]; exact ee1) (by rw [le_fR F1.2.1, le_nar F1.2.1, hF, hnr]; exact g1)
        rw [le_fR F1.2.1, le_nar F1.2.1, hF, hnr] at tk
        obtain ⟨h2, e2, F2, R2⟩ := tk
        refine ⟨h2, ?_, F1.trans F2, R2⟩
        rw [← e2, f_X9_goes_64, if_pos (by decide)]
        unfold f_X9_goes_208
        by_cases c0 : cut = 0
        · rw [if_pos c0, if_neg (by simp [c0])]
        · rw [if_neg c0]
          by_cases n0 : no = 0
          · rw [if_neg (by rw [n0]; decide), if_pos (by simp [c0, n0])]
          · rw [if_pos (by rw [li0, ni_eq (by omega) (by omega)]; exact n0), if_neg (by simp [n0])]
    · have w1 : ¬ w = 0 := fun z => tm (iw.mp z)
      rw [if_neg w1, if_neg (fun z => tm (tmB_t.mp z))]
      exact ⟨fun _ => ⟨h1, rfl, F1, R1⟩, fun q => absurd q (by show ¬ (-4 : Int32) = 0; decide)⟩
