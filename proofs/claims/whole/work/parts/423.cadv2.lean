/-! ===== a step of the class, made anew while it is rejected ===== -/
def PX (c L r a : Nat) : Prop := PR (c + 1) L r a ∨ (c + 8 ≤ a ∧ a < c + 37)
def QX (c r a : Nat) : Prop := a = c + 8 ∨ a = r + 12
theorem s0_fx {P Q : Nat → Prop} {h0 h : Hp} {T k : Nat} (F : Fx P Q h0 h) (hQ : ∀ a, T ≤ a → a < T + 29 → ¬ Q a) (S : S0 h0 T k) : S0 h T k := by
  obtain ⟨a1, a2, a3, a4, a5, a6, a7, a8, a9, a10, a11⟩ := S
  have q0 := F.2.2.1 T (hQ _ (by omega) (by omega))
  have q1 := F.2.2.1 (T + 10) (hQ _ (by omega) (by omega))
  refine ⟨by rw [F.2.1]; exact a1, by rw [q0]; exact a2, by rw [q0]; exact a3, by rw [q0]; exact a4, by rw [q0]; exact a5, by rw [q0]; exact a6, by rw [q0]; exact a7, by rw [q0]; exact a8, by rw [F.2.1]; exact a9, fun j hj => by rw [q1]; exact a10 j hj, fun r hr => ?_⟩
  have hl := isr_le hr
  have qr := F.2.2.1 (T + r) (hQ _ (by omega) (by omega))
  unfold RW
  rw [F.2.1, qr]
  exact a11 r hr
theorem sn_fx {P Q : Nat → Prop} {h0 h : Hp} {T : Nat} (F : Fx P Q h0 h) (hP : ∀ a, T ≤ a → a < T + 29 → ¬ P a) (S : SN h0 T) : SN h T := by
  intro r hr i hi
  have hl := isr_le hr
  rw [(F.2.2.2 (T + r + 1) (hP _ (by omega) (by omega))).2, (F.2.2.2 (T + r + 2) (hP _ (by omega) (by omega))).1]
  exact S r hr i hi
theorem cr_stR {h : Hp} {r n b j : Nat} {v : Option Nat} {A : RecT} (C : CR h r n A) (h1 : b ≠ r) (h2 : b ≠ r + 12) : CR (stR h b j v) r n A := by
  obtain ⟨c1, c2', c3, c4, c5, c6, c7, c8, c9, c10, c11, c12, c13, c14, c15, c16, c17⟩ := C
  refine ⟨c1, c2', c3, c4, c5, c6, c7, c8, c9, c10, c11, c12, c13, c14, c15, c16, fun st => ?_⟩
  obtain ⟨d1, d2, d3⟩ := c17 st
  exact ⟨by rw [hpR_stR, hpR_stR, if_neg (Ne.symm h1), if_neg (Ne.symm h2)]; exact d1, d2, d3⟩
/-- the work lies elsewhere -/
theorem wr_oth {P : Nat → Prop} {h h' : Hp} {m l n ns N k L sg r : Nat} (W : WR h m l n ns N k L sg r) (F : Fr P h h') (E : EN h' m l n ns N k L sg) (hP : ∀ a, r ≤ a → a < r + 41 → ¬ P a) : WR h' m l n ns N k L sg r :=
  ⟨E, fr_RB F W.2.1, fr_RN F (hP _ (by omega) (by omega)) (hP _ (by omega) (by omega)) W.2.2.1, fun q hq => fr_RN F (hP _ (by have := isr_le hq; omega) (by have := isr_le hq; omega)) (hP _ (by have := isr_le hq; omega) (by have := isr_le hq; omega)) (W.2.2.2.1 q hq), by unfold RS; rw [F.2.2.1]; exact W.2.2.2.2.1, by rw [F.2.2.1]; exact W.2.2.2.2.2⟩
theorem sd_c {h : Hp} {T n M : Nat} {F : FT} {nar : Int32} {t hf : UInt64} {x y : Nat → UInt64} (D : Dp F n) (hx : ∀ i, i < n → x i = y i) (s : SD h T n M F nar t hf x) : SD h T n M F nar t hf y := by
  obtain ⟨a1, a2, a3, a4, a5, a6, a7, a8, a9⟩ := s
  exact ⟨a1, a2, a3, a4, by rw [a5, gS_c D hx], fun i hi => by rw [a6 i hi, hx i hi], fun i hi => by rw [a7 i hi]; exact zS_c D hx i hi, fun j hj i hi => by rw [a8 j hj i hi]; exact kS_c D hx i hi, fun e i hi => by rw [a9 e i hi]; exact eP_c D hx i hi⟩
def AV (h0 h : Hp) (c m l n ns N L r : Nat) (A : RecT) : Prop := XO h c ∧ WR h m l n ns N (c + 1) L (c + 5) r ∧ S0 h (c + 8) (c + 1) ∧ SN h (c + 8) ∧ CR h r n A ∧ Fx (PX c L r) (QX c r) h0 h
/-- a step is made out of the run's state -/
theorem av_make {h0 h : Hp} {c m l n ns N L r M : Nat} {A : RecT} {hh : UInt64} (hc : c + 66 ≤ m) (V : AV h0 h c m l n ns N L r A) (hM : A.1 15 0 = nI M) (hM6 : M ≤ 6) (nt : Nm (A.2 24 0)) (fh : HB hh) :
    ∃ w h', f_X6_make (c + 8) (some L) (nI M) (A.2 24 0) (some (r + 1)) hh h = some (w, h') ∧ AV h0 h' c m l n ns N L r A ∧ WT h' m l n ns N (c + 1) L (c + 5) (c + 8) ∧ (w = 0 ∨ w = 1) ∧ (w = 1 ↔ Tame (fR h m l N) (hpI h (m + 2) l) n M (A.2 24 0) hh (A.2 29)) ∧ (w = 1 → SD h' (c + 8) n M (fR h m l N) (hpI h (m + 2) l) (A.2 24 0) hh (A.2 29) ∧ hpD h' (c + 8) 12 = FP.dconst0) ∧ fR h' m l N = fR h m l N ∧ nvR h' m l N = nvR h m l N ∧ hpI h' (m + 2) l = hpI h (m + 2) l := by
  obtain ⟨X, W, S, sT, C, F⟩ := V
  have s := W.2.2.2.2.1
  have s1 := s.1
  have s2 := s.2.1
  have p1 := W.1.2.2.2.2.2.2.2.1
  have p2 := W.1.2.2.2.2.2.2.2.2.1
  have W' := wr_stR (b := c + 8) (v := some L) W S.1 (by omega)
  have hR : hpR (stR h (c + 8) 1 (some L)) (c + 8) 1 = some L := by rw [hpR_stR, if_pos rfl, if_pos rfl]
  have WTm : WT (stR h (c + 8) 1 (some L)) m l n ns N (c + 1) L (c + 5) (c + 8) := ⟨W'.1, s0_st (s0_stR S (by rw [S.1]; decide) (by rw [S.1]; decide) (fun _ => rfl)) hR, fun q hq => sT q hq, by omega, by omega, by omega, fun s' hs' S' hS' => by have := (W'.1.2.2.2.2.2.2.2.2.2 s' hs' S' hS').1; omega⟩
  have np : ∀ a, r ≤ a → a < r + 41 → ¬ PT (c + 1) L (c + 8) a := fun a h1 h2 z => by
    rcases z with z | z
    · exact r_ne W h1 h2 z
    · omega
  obtain ⟨w, h8, e8, W8, F8, w01, w1, sd⟩ := c_make (xr := r + 1) WTm (rb_rw W.2.1) W.2.2.1 (np _ (by omega) (by omega)) (np _ (by omega) (by omega)) hM6 nt fh
  have DP : Dp (fR h m l N) n := dp_fR W.1.2.2.1
  have cx := cr_x C
  have fx8 : Fx (PX c L r) (QX c r) h h8 := (fx_stR (Or.inl rfl)).trans ((F8.mono (fun a z => by
    rcases z with z | z
    · exact Or.inl (Or.inl z)
    · exact Or.inr (by omega))).fx)
  have le : LE (stR h (c + 8) 1 (some L)) h8 m := fr_LE F8 (fun a h1 h2 => pt_bd WTm (Or.inl ⟨h1, h2⟩))
  refine ⟨w, h8, e8, ⟨xo_fx fx8 (by unfold QX; omega) (by unfold QX; omega) X, wr_oth W' F8 W8.1 np, st_s0 W8.2.1, W8.2.2.1, cr_fr (cr_stR C (by omega) (by omega)) F8 (fun a h1 h2 _ _ _ => np a h1 h2), F.trans fx8⟩, W8, w01, w1.trans ⟨fun z => tame_c DP cx z, fun z => tame_c DP (fun i hi => (cx i hi).symm) z⟩, fun z => ⟨sd_c DP cx (sd z).1, (sd z).2⟩, (le_fR le).trans rfl, (le_nvR le).trans rfl, (le_nar le).trans rfl⟩
theorem av_T {h0 h : Hp} {c m l n ns N L r j : Nat} {A : RecT} {v : UInt64} (hc : c + 66 ≤ m) (V : AV h0 h c m l n ns N L r A) (WT0 : WT h m l n ns N (c + 1) L (c + 5) (c + 8)) : AV h0 (stD h (c + 8) j v) c m l n ns N L r A := by
  obtain ⟨X, W, S, sT, C, F⟩ := V
  have s1 := W.2.2.2.2.1.1
  have G : Fr (fun a => a = c + 8) h (stD h (c + 8) j v) := fr_stD (Fr.refl _ h) rfl
  have WT1 := wt_TD' (j := j) (v := v) WT0
  have GX : Fx (PX c L r) (QX c r) h (stD h (c + 8) j v) := (G.mono (fun a e => Or.inr (by omega))).fx
  exact ⟨xo_fx GX (by unfold QX; omega) (by unfold QX; omega) X, wr_oth W G WT1.1 (fun a h1 h2 e => by omega), S, WT1.2.2.1, cr_fr C G (fun a h1 h2 _ _ _ e => by omega), F.trans GX⟩
def ansS (r : Int32 × Nat × UInt64 × UInt64) : Int32 := if r.1 = 0 then nI r.2.1 else r.1
noncomputable def recS (F : FT) (Vv : UInt64 → (Nat → UInt64) → Nat → UInt64) (nar : Int32) (n M : Nat) (A : RecT) (cut : Int32) (endv : UInt64) (r : Int32 × Nat × UInt64 × UInt64) : RecT := if r.1 = 0 then evS Vv (tkS A F nar n M r.2.1 r.2.2.1 r.2.2.2 (decide (cut ≠ 0 ∧ r.2.1 = 0)) endv) nar n else A
theorem c_isTooSmall (x : UInt64) (h : Hp) : f_X8_isTooSmall x h = some (if 0 ≤ cg x 4472074429978902528 then 0 else 1, h) := by
  unfold f_X8_isTooSmall f_X8_isTooSmall_13
  by_cases q : 0 ≤ cg x 4472074429978902528
  · rw [if_pos q, if_pos q, if_pos (by decide)]
  · rw [if_neg q, if_neg q, if_pos (by decide)]
theorem c_advance_6 {h0 : Hp} {c m l n ns N L r M ne f : Nat} {A : RecT} {cut : Int32} {endv : UInt64} {F : FT} {Vv : UInt64 → (Nat → UInt64) → Nat → UInt64} {nar : Int32} (hc : c + 66 ≤ m) (hM : A.1 15 0 = nI M) (hM6 : M ≤ 6) (nt : Nm (A.2 24 0)) (tz : A.2 24 0 ≠ mz) (ha : Fn (A.2 26 0) ∧ 0 < ky (A.2 26 0)) (hb : Fn (A.2 27 0) ∧ 0 ≤ ky (A.2 27 0)) (hne : A.1 16 0 = nI ne) (hn4 : ne ≤ 4) (ef : A.1 20 0 = nI f) (hf : f < 900000) (hq : ∀ j, j < ne → ∃ q, A.1 30 j = nI q ∧ q < N) :
    ∀ (d no fuel : Nat) (hh : UInt64) (h : Hp), no + d = 20 → d < fuel → HB hh → AV h0 h c m l n ns N L r A → fR h m l N = F → nvR h m l N = Vv → hpI h (m + 2) l = nar → (M ≠ 4 → no = 0 ∧ (cut = 0 → hh = A.2 25 0)) →
      ∃ h', f_X8_advance_6 fuel (some c) (some r) cut endv hh (nI no) h = some (ansS (attS F nar n M (A.2 24 0) (A.2 29) (A.2 26 0) (A.2 27 0) d no hh), h') ∧ AV h0 h' c m l n ns N L r (recS F Vv nar n M A cut endv (attS F nar n M (A.2 24 0) (A.2 29) (A.2 26 0) (A.2 27 0) d no hh)) := by
  intro d
  induction d with
  | zero =>
    intro no fuel hh h hno hfu fh V _ _ _ _
    obtain ⟨fuel, rfl⟩ : ∃ j, fuel = j + 1 := ⟨fuel - 1, by omega⟩
    have : no = 20 := by omega
    subst this
    rw [f_X8_advance_6, if_pos (by decide)]
    exact ⟨h, rfl, V⟩
  | succ d ih =>
    intro no fuel hh h hno hfu fh V eF eV en hl
    obtain ⟨fuel, rfl⟩ : ∃ j, fuel = j + 1 := ⟨fuel - 1, by omega⟩
    obtain ⟨w, h8, e8, V8, W8, w01, w1, sd8, eF8, eV8, en8⟩ := av_make hc V hM hM6 nt fh
    rw [eF, en] at w1 sd8
    rw [eF] at eF8
    rw [eV] at eV8
    rw [en] at en8
    have W := V.2.1
    have B := W.2.1
    have C := V.2.2.2.2.1
    have B8 := V8.2.1.2.1
    have s1 := W.2.2.2.2.1.1
    have s2 := W.2.2.2.2.1.2.1
    have p1 := W.1.2.2.2.2.2.2.2.1
    have p2 := W.1.2.2.2.2.2.2.2.2.1
    have m3 : hpI h r 3 = nI M := by rw [(cr_h C).2.1, hM]
    have m8 : hpI h8 r 3 = nI M := by rw [(cr_h V8.2.2.2.2.1).2.1, hM]
    have n20 : ¬ (20 : Int32) ≤ nI no := by rw [show (20 : Int32) = nI 20 from rfl, ni_le (by omega) (by omega)]; omega
    rw [f_X8_advance_6, if_neg n20, xo_g9 V.1, Option.bind_some, rb_g0 B, Option.bind_some, W.2.2.2.2.2, rb_gi B, Option.bind_some, m3, rb_gd B, Option.bind_some, (cr_h C).1, rb_g2 B, Option.bind_some, ck_ok V.2.2.1.1, Option.bind_some, e8, bnd_some, attS]
    by_cases z : w = 0
    · have nT : ¬ tmB F nar n M (A.2 24 0) hh (A.2 29) = true := fun q => by
        have := w1.mpr (tmB_t.mp q); rw [z] at this; exact absurd this (by decide)
      rw [if_neg (fun q => q z), if_neg nT]
      refine ⟨h8, by unfold ansS; rw [if_neg (show ¬ (-4 : Int32) = 0 by decide)], ?_⟩
      unfold recS
      rw [if_neg (show ¬ (-4 : Int32) = 0 by decide)]; exact V8
    have T := w1.mp (w_ne w01 z)
    obtain ⟨sd, ed⟩ := sd8 (w_ne w01 z)
    rw [if_pos z, if_pos (tmB_t.mpr T), rb_gi B8, Option.bind_some, m8]
    generalize eo : offS F nar n M (A.2 24 0) (A.2 29) (A.2 26 0) (A.2 27 0) hh = off
    -- the heap with its error
    have tail : ∀ g, AV h0 g c m l n ns N L r A → ST g (c + 8) (c + 1) L → SD g (c + 8) n M F nar (A.2 24 0) hh (A.2 29) → hpD g (c + 8) 12 = off → fR g m l N = F → nvR g m l N = Vv → hpI g (m + 2) l = nar →
        ∃ h', f_X8_advance_67 (f_X8_advance_6 fuel) (some c) (some r) cut endv hh (nI no) g = some (ansS (if 0 < cg off FP.dconst1 then
        (if 0 ≤ cg (mk (nxH hh off)) 4472074429978902528 then attS F nar n M (A.2 24 0) (A.2 29) (A.2 26 0) (A.2 27 0) d (no + 1) (nxH hh off) else (-5, no, hh, 0))
      else (0, no, hh, off)), h') ∧ AV h0 h' c m l n ns N L r (recS F Vv nar n M A cut endv (if 0 < cg off FP.dconst1 then
        (if 0 ≤ cg (mk (nxH hh off)) 4472074429978902528 then attS F nar n M (A.2 24 0) (A.2 29) (A.2 26 0) (A.2 27 0) d (no + 1) (nxH hh off) else (-5, no, hh, 0))
      else (0, no, hh, off))) := by
      intro g Vg Sg sg eg gF gV gn
      have ge : getD g (some (c + 8)) 6 12 = some off := by rw [getD_ok Sg.1, eg]
      unfold f_X8_advance_67
      rw [xo_g9 Vg.1, Option.bind_some, ge, Option.bind_some]
      by_cases q1 : 0 < cg off FP.dconst1
      · rw [if_pos q1, if_pos q1]
        have hM4 : M = 4 := by
          by_cases q4 : M = 4
          · exact q4
          · exfalso
            unfold offS at eo
            rw [if_neg q4] at eo
            rw [← eo, cg_gt_n nm_0 nm_1, ky_0, ky_1] at q1
            omega
        have fn := hb_nxH (off := off) fh
        have go : ∀ v, nxH hh off = v → ∃ h', f_X8_advance_126 (f_X8_advance_6 fuel) (some c) (some r) cut endv (nI no) v g = some (ansS (if 0 ≤ cg (mk (nxH hh off)) 4472074429978902528 then attS F nar n M (A.2 24 0) (A.2 29) (A.2 26 0) (A.2 27 0) d (no + 1) (nxH hh off) else (-5, no, hh, 0)), h') ∧ AV h0 h' c m l n ns N L r (recS F Vv nar n M A cut endv (if 0 ≤ cg (mk (nxH hh off)) 4472074429978902528 then attS F nar n M (A.2 24 0) (A.2 29) (A.2 26 0) (A.2 27 0) d (no + 1) (nxH hh off) else (-5, no, hh, 0))) := fun v ev => by
          rw [ev] at fn ⊢
          unfold f_X8_advance_126
          rw [c_size fn.fn.nm, bnd_some, c_isTooSmall, bnd_some]
          by_cases q2 : 0 ≤ cg (mk v) 4472074429978902528
          · rw [if_pos q2, if_pos q2, if_pos rfl, li1, ni_add]
            exact ih (no + 1) fuel v g (by omega) (by omega) fn Vg gF gV gn (fun q4 => absurd hM4 q4)
          · rw [if_neg q2, if_neg q2, if_neg (by decide)]
            refine ⟨g, by unfold ansS; rw [if_neg (show ¬ (-5 : Int32) = 0 by decide)], ?_⟩
            unfold recS
            rw [if_neg (show ¬ (-5 : Int32) = 0 by decide)]; exact Vg
        rw [Option.bind_some, ge, Option.bind_some]
        by_cases q8 : 0 < cg off 4620693217682128896
        · rw [if_pos q8]
          have ev : nxH hh off = FP.ddiv hh 4616189618054758400 := by unfold nxH; rw [if_pos q8]
          rw [fop_ok (by rw [← ev]; exact fn.fn.nm), Option.bind_some]
          exact go _ ev
        · rw [if_neg q8]
          have ev : nxH hh off = FP.ddiv hh 4611686018427387904 := by unfold nxH; rw [if_neg q8]
          rw [fop_ok (by rw [← ev]; exact fn.fn.nm), Option.bind_some]
          exact go _ ev
      · rw [if_neg q1, if_neg q1]
        obtain ⟨Xg, Wg, S0g, sTg, Cg, Fg⟩ := Vg
        obtain ⟨h3, e3, W3, C3, F3⟩ := c_finish (endv := endv) (cut := cut) (no := no) (off := off) Xg hc Wg Cg Sg sTg hM hM6 (by omega) fh nt (by rw [gF, gn]; exact sg) eg (fun q4 nc => by
          obtain ⟨q5, q6⟩ := hl q4
          refine q6 (Classical.byContradiction fun z => nc ⟨z, q5⟩))
        rw [gF, gn] at C3
        have Wst := wr_stR (b := r + 12) (v := some L) Wg (rb_s0 Wg.2.1).1 (by omega)
        have le3 : LE (stR g (r + 12) 1 (some L)) h3 m := wr_LE Wst F3
        have n3 : nvR h3 m l N = Vv := (le_nvR le3).trans gV
        have a3 : hpI h3 (m + 2) l = nar := (le_nar le3).trans gn
        obtain ⟨h5, e5, W5, C5, F5⟩ := c_lookAtEvents (ne := ne) (f := f) W3 C3 rfl hne hn4 ef hf hq fh nt tz
        rw [n3, a3] at C5
        have fx3 : Fx (PX c L r) (QX c r) g h5 := (fx_stR (b := r + 12) (Or.inr rfl)).trans (((F3.trans F5).mono (fun a z => Or.inl z)).fx)
        have fx3' : Fx (PR (c + 1) L r) (fun a => a = r + 12) g h5 := (fx_stR (Q := fun a => a = r + 12) (b := r + 12) rfl).trans ((F3.trans F5).fx)
        have nP : ∀ a, c + 8 ≤ a → a < c + 8 + 29 → ¬ PR (c + 1) L r a := fun a h1 h2 z => by
          rcases z with z | z
          · rcases z with z | z | z <;> omega
          · omega
        refine ⟨h5, ?_, xo_fx fx3 (by unfold QX; omega) (by unfold QX; omega) Xg, W5, s0_fx fx3' (fun a h1 h2 e => by omega) S0g, sn_fx fx3' nP sTg, C5, Fg.trans fx3⟩
        rw [xo_ck Xg, Option.bind_some, e3, bnd_some, rb_ck W3.2.1, Option.bind_some, e5, bnd_some]
        rfl
    by_cases q4 : M = 4
    · have off4 : off = rtS (A.2 29) (zS F nar n M (A.2 24 0) hh (A.2 29)) (eP F nar (A.2 24 0) hh (A.2 29)) (A.2 26 0) (A.2 27 0) n := by rw [← eo]; unfold offS; rw [if_pos q4]
      have T4 : Tame F nar n 4 (A.2 24 0) hh (A.2 29) := by rw [← q4]; exact T
      have fx := tame_x T4
      have jg := c_judge W8 ha hb (fun i hi => by rw [sd.2.2.2.2.2.1 i hi]; exact fx i hi) (fun i hi => by rw [sd.2.2.2.2.2.2.1 i hi]; exact T.2.2.2.1 i hi) (fun i hi => by rw [sd.2.2.2.2.2.2.2.2 q4 i hi]; exact T.2.2.1 q4 i hi) ed
      have rt : rtS (RV h8 (c + 8 + 1)) (RV h8 (c + 8 + 7)) (RV h8 (c + 8 + 23)) (A.2 26 0) (A.2 27 0) n = off := by
        rw [off4]
        exact rtS_congr sd.2.2.2.2.2.1 sd.2.2.2.2.2.2.1 (sd.2.2.2.2.2.2.2.2 q4)
      rw [rt] at jg
      have C8 := V8.2.2.2.2.1
      rw [if_neg (fun q => q (by rw [q4]; rfl)), xo_g9 V8.1, Option.bind_some, rb_gd B8, Option.bind_some, (cr_h C8).2.2.2.1, rb_gd B8, Option.bind_some, (cr_h C8).2.2.2.2.1, ck_ok V8.2.2.1.1, Option.bind_some, jg, bnd_some]
      have tT : ∀ j, j ≠ 12 → hpD (stD h8 (c + 8) 12 off) (c + 8) j = hpD h8 (c + 8) j := fun j hj => hpD_stD_ne (Or.inr hj)
      have rvT : ∀ o, IsR o → RV (stD h8 (c + 8) 12 off) (c + 8 + o) = RV h8 (c + 8 + o) := fun o ho => fr_RV (P := fun a => a = c + 8) (fr_stD (Fr.refl _ h8) rfl) (by have := isr_le ho; omega) (by have := isr_le ho; omega)
      obtain ⟨y2, y3, y4, y5, y13, yx, yz, yk, ye⟩ := sd
      refine tail _ (av_T hc V8 W8) W8.2.1 ⟨y2, by rw [tT 3 (by omega)]; exact y3, by rw [tT 4 (by omega)]; exact y4, by rw [tT 5 (by omega)]; exact y5, y13, by rw [rvT 1 i1]; exact yx, by rw [rvT 7 i7]; exact yz, fun j hj => by rw [rvT _ (isr_k (by have := sgN_le M; omega))]; exact yk j hj, by rw [rvT 23 i23]; exact ye⟩ (hpD_stD_self _ _ _ _) ?_ ?_ ?_
      · have le : LE h8 (stD h8 (c + 8) 12 off) m := fr_LE (P := fun a => a = c + 8) (fr_stD (Fr.refl _ h8) rfl) (fun a h1 h2 e => by omega)
        rw [le_fR le]; exact eF8
      · have le : LE h8 (stD h8 (c + 8) 12 off) m := fr_LE (P := fun a => a = c + 8) (fr_stD (Fr.refl _ h8) rfl) (fun a h1 h2 e => by omega)
        rw [le_nvR le]; exact eV8
      · exact en8
    · have off0 : off = FP.dconst0 := by rw [← eo]; unfold offS; rw [if_neg q4]
      rw [if_pos (by rw [li4, ni_eq (by omega) (by omega)]; exact q4)]
      exact tail h8 V8 W8.2.1 sd (by rw [off0]; exact ed) eF8 eV8 en8
theorem c_advance {h : Hp} {c m l n ns N L r Tt Bb : Nat} {A : RecT} {cut : Int32} {begin' endv : UInt64} (hc : c + 66 ≤ m) (X : XO h c) (W : WR h m l n ns N (c + 1) L (c + 5) r) (S : S0 h (c + 8) (c + 1)) (sT : SN h (c + 8)) (C : CR h r n A) (v : VA Tt Bb n N A) (hB : Bb < 500000) (fh : HB begin') (hl : cut = 0 → begin' = A.2 25 0) :
    ∃ h', f_X8_advance c (some r) begin' cut endv h = some ((goR (fR h m l N) (nvR h m l N) (hpI h (m + 2) l) n A begin' cut endv).1, h') ∧ AV h h' c m l n ns N L r (goR (fR h m l N) (nvR h m l N) (hpI h (m + 2) l) n A begin' cut endv).2 := by
  obtain ⟨⟨M, hM, hM6⟩, ⟨ne, hne, hn4, hq⟩, -, ⟨f, ef, hf⟩, -, -, ⟨nt, tz⟩, -, ha, hb, -⟩ := v
  obtain ⟨h', e, V⟩ := c_advance_6 (cut := cut) (endv := endv) hc hM hM6 nt tz ha hb hne hn4 ef (by omega) hq 20 0 fuelN begin' h (by omega) (by unfold fuelN; omega) fh ⟨X, W, S, sT, C, Fx.refl _ _ h⟩ rfl rfl rfl (fun _ => ⟨rfl, hl⟩)
  have tM : tc (A.1 15 0) = M := by rw [hM]; exact ni_cl (by omega)
  have g : goR (fR h m l N) (nvR h m l N) (hpI h (m + 2) l) n A begin' cut endv = (ansS (attS (fR h m l N) (hpI h (m + 2) l) n M (A.2 24 0) (A.2 29) (A.2 26 0) (A.2 27 0) 20 0 begin'), recS (fR h m l N) (nvR h m l N) (hpI h (m + 2) l) n M A cut endv (attS (fR h m l N) (hpI h (m + 2) l) n M (A.2 24 0) (A.2 29) (A.2 26 0) (A.2 27 0) 20 0 begin')) := by
    unfold goR ansS recS
    dsimp only
    rw [tM]
    split <;> rfl
  rw [g]
  exact ⟨h', e, V⟩
