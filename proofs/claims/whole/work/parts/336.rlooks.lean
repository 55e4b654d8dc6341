/-! ===== where an event comes ===== -/
/-- a place in a step -/
def PL (s : UInt64) : Prop := 0 ≤ ky s ∧ ky s ≤ ky FP.dconst1 ∧ s ≠ 9223372036854775808
theorem PL.sb {s : UInt64} (h : PL s) : SB s := by have k := ky_1; have h1 := h.1; have h2 := h.2.1; show (ky s).natAbs < _; omega
theorem pl_0 : PL FP.dconst0 := ⟨by rw [ky_0]; decide, by rw [ky_0, ky_1]; decide, by decide⟩
theorem pl_1 : PL FP.dconst1 := ⟨by rw [ky_1]; decide, Int.le_refl _, by decide⟩
theorem pl_mid {a b : UInt64} (ha : PL a) (hb : PL b) : Nm (FP.dadd a b) ∧ Nm (FP.ddiv (FP.dadd a b) c2) ∧ PL (FP.ddiv (FP.dadd a b) c2) := by
  obtain ⟨m1, m2, m3, m4, m5⟩ := mid_ok ha.1 ha.2.1 hb.1 hb.2.1 ha.2.2 hb.2.2
  exact ⟨m1, m2, m3, m4, m5⟩
def risP (a b : UInt64) (way : Int32) : Prop := ¬ 0 ≤ cg a FP.dconst0 ∧ ¬ cl b FP.dconst0 < 0 ∧ ¬ way < 0
def falP (a b : UInt64) (way : Int32) : Prop := ¬ cl a FP.dconst0 ≤ 0 ∧ ¬ 0 < cg b FP.dconst0 ∧ ¬ 0 < way
def bsS (v : UInt64 → UInt64) (ris : Bool) : Nat → UInt64 → UInt64 → UInt64
  | 0, _, hi => hi
  | d + 1, lo, hi => if (ris = true ∧ cl (v (FP.ddiv (FP.dadd lo hi) c2)) FP.dconst0 < 0) ∨ (ris = false ∧ 0 < cg (v (FP.ddiv (FP.dadd lo hi) c2)) FP.dconst0) then bsS v ris d (FP.ddiv (FP.dadd lo hi) c2) hi else bsS v ris d lo (FP.ddiv (FP.dadd lo hi) c2)
theorem pl_bsS {v : UInt64 → UInt64} {ris : Bool} : ∀ (d : Nat) (lo hi : UInt64), PL lo → PL hi → PL (bsS v ris d lo hi) := by
  intro d
  induction d with
  | zero => intro lo hi _ h; exact h
  | succ d ih =>
    intro lo hi h1 h2
    rw [bsS]
    split
    · exact ih _ _ (pl_mid h1 h2).2.2 h2
    · exact ih _ _ h1 (pl_mid h1 h2).2.2
noncomputable def hvS (v : UInt64 → UInt64) (way : Int32) : UInt64 := @ite _ (risP (v FP.dconst0) (v FP.dconst1) way) (Classical.propDecidable _) (bsS v true 30 FP.dconst0 FP.dconst1) (@ite _ (falP (v FP.dconst0) (v FP.dconst1) way) (Classical.propDecidable _) (bsS v false 30 FP.dconst0 FP.dconst1) c2)
def VS (h0 : Hp) (m s n l ns N : Nat) (A : RecT) : Prop := SX h0 m l n ns N ∧ s < 9 ∧ A.1 22 0 = 1 ∧ A.1 14 0 = nI l ∧ HB (A.2 38 0) ∧ Nm (A.2 37 0) ∧ (∀ i, i < n → Cv (A.2 39 i)) ∧ (∀ i, i < n → Cv (A.2 40 i))
theorem v_valueAt {h0 h : Hp} {m s n l ns N q : Nat} {A : RecT} {at' : UInt64} (W : VS h0 m s n l ns N A) (F : Fs h0 h m s) (R : RR h m s n A) (hq : q < N) (sb : SB at') :
    ∃ h', f_X9_valueAt m (nI s) (nI q) at' h = some (vaS (nvR h0 m l N) A (hpI h0 (m + 2) l) q at', h') ∧ Fs h0 h' m s ∧ RR h' m s n A ∧ hpI h' = hpI h ∧ (∀ a, a ≠ m + 44 → a ≠ m + 54 → hpD h' a = hpD h a) := by
  obtain ⟨X, hs, w1, w2, w3, w4, w5, w6⟩ := W
  obtain ⟨h', e, F1, R1, i1, d1⟩ := r_valueAt (le_SX F.2.1 X) hs R w1 w2 w3 w4 w5 w6 hq sb
  rw [le_nvR F.2.1, le_nar F.2.1] at e
  exact ⟨h', e, F.trans F1, R1, i1, d1⟩
/-- the reference's search -/
theorem r_looksAt_137 {h0 : Hp} {m s n l ns N q j : Nat} {A : RecT} {v9 : Int32} {ris : Bool} (W : VS h0 m s n l ns N A) (hq : q < N) (hj : j < 4) (hv9 : v9 = 0 ↔ ris = false) :
    ∀ (d k fuel : Nat) (lo : UInt64) (h : Hp), k + d = 30 → d < fuel → Fs h0 h m s → RR h m s n A → PL lo → PL (hpD h (m + 56) j) →
      ∃ h', f_X9_looksAt_137 fuel (some m) (nI s) (nI j) (nI q) v9 lo (nI k) h = some ((), h') ∧ Fs h0 h' m s ∧ RR h' m s n A ∧ hpI h' = hpI h ∧ (∀ j', j' ≠ j → hpD h' (m + 56) j' = hpD h (m + 56) j') ∧ hpD h' (m + 56) j = bsS (vaS (nvR h0 m l N) A (hpI h0 (m + 2) l) q) ris d lo (hpD h (m + 56) j) := by
  intro d
  induction d with
  | zero =>
    intro k fuel lo h hk hf F R p1 p2
    obtain ⟨fuel, rfl⟩ : ∃ j, fuel = j + 1 := ⟨fuel - 1, by omega⟩
    have : k = 30 := by omega
    subst this
    refine ⟨h, ?_, F, R, rfl, fun _ _ => rfl, rfl⟩
    rw [f_X9_looksAt_137, if_pos (by decide)]
  | succ d ih =>
    intro k fuel lo h hk hf F R p1 p2
    obtain ⟨fuel, rfl⟩ : ∃ j, fuel = j + 1 := ⟨fuel - 1, by omega⟩
    have H := le_RO F.2.1 W.1.1
    obtain ⟨m1, m2, m3⟩ := pl_mid p1 p2
    obtain ⟨h1, e1, F1, R1, i1, d1⟩ := v_valueAt (q := q) W F R hq m3.sb
    have H1 := le_RO F1.2.1 W.1.1
    rw [f_X9_looksAt_137, if_neg (by rw [show (30 : Int32) = nI 30 from rfl, ni_le (by omega) (by omega)]; omega), ro_g58 H, Option.bind_some, ro_a58 H hj, Option.bind_some, fop_ok m1, Option.bind_some, fop_ok m2, Option.bind_some, ro_ck H, Option.bind_some, e1, bnd_some]
    have hi1 : hpD h1 (m + 56) j = hpD h (m + 56) j := by rw [d1 _ (by omega) (by omega)]
    have o1 : ∀ j', hpD h1 (m + 56) j' = hpD h (m + 56) j' := fun j' => by rw [d1 _ (by omega) (by omega)]
    generalize hmid : FP.ddiv (FP.dadd lo (hpD h (m + 56) j)) c2 = mid at *
    have low : ∃ h', f_X9_looksAt_202 (f_X9_looksAt_137 fuel) (some m) (nI s) (nI j) (nI q) v9 (nI k) mid h1 = some ((), h') ∧ Fs h0 h' m s ∧ RR h' m s n A ∧ hpI h' = hpI h ∧ (∀ j', j' ≠ j → hpD h' (m + 56) j' = hpD h (m + 56) j') ∧ hpD h' (m + 56) j = bsS (vaS (nvR h0 m l N) A (hpI h0 (m + 2) l) q) ris d mid (hpD h (m + 56) j) := by
      unfold f_X9_looksAt_202 f_X9_looksAt_206
      rw [li1, ni_add]
      obtain ⟨h2, e2, F2, R2, i2, o2, b2⟩ := ih (k + 1) fuel mid h1 (by omega) (by omega) F1 R1 m3 (by rw [hi1]; exact p2)
      refine ⟨h2, e2, F2, R2, by rw [i2, i1], fun j' hj' => by rw [o2 j' hj', o1 j'], by rw [b2, hi1]⟩
    have high : ∃ h', f_X9_looksAt_191 (f_X9_looksAt_137 fuel) (some m) (nI s) (nI j) (nI q) v9 lo (nI k) mid h1 = some ((), h') ∧ Fs h0 h' m s ∧ RR h' m s n A ∧ hpI h' = hpI h ∧ (∀ j', j' ≠ j → hpD h' (m + 56) j' = hpD h (m + 56) j') ∧ hpD h' (m + 56) j = bsS (vaS (nvR h0 m l N) A (hpI h0 (m + 2) l) q) ris d lo mid := by
      unfold f_X9_looksAt_191 f_X9_looksAt_206
      rw [ro_g58 H1, Option.bind_some, ro_s58 H1 hj, Option.bind_some, li1, ni_add, stD_rw]
      obtain ⟨h2, e2, F2, R2, i2, o2, b2⟩ := ih (k + 1) fuel lo (rwD h1 (m + 56) (up1 (hpD h1 (m + 56)) j mid)) (by omega) (by omega) (F1.trans (fs_wk s _ (by omega))) (rr_wk (by omega) R1) p1 (by rw [hpD_rwD_self, up1_self]; exact m3)
      refine ⟨h2, e2, F2, R2, by rw [i2]; exact i1, fun j' hj' => by rw [o2 j' hj', hpD_rwD_self, up1_ne hj', o1 j'], by rw [b2, hpD_rwD_self, up1_self]⟩
    rw [bsS, hmid]
    by_cases q0 : v9 = 0
    · have rf := hv9.mp q0
      rw [if_pos q0]
      by_cases q1 : 0 < cg (vaS (nvR h0 m l N) A (hpI h0 (m + 2) l) q mid) FP.dconst0
      · rw [if_pos q1, if_pos (Or.inr ⟨rf, q1⟩)]; exact low
      · rw [if_neg q1, if_neg (by rintro (⟨z, -⟩ | ⟨-, z⟩); rw [rf] at z; exact absurd z (by decide); exact q1 z)]; exact high
    · have rf : ris = true := by cases ris with | true => rfl | false => exact absurd (hv9.mpr rfl) q0
      rw [if_neg q0]
      by_cases q1 : cl (vaS (nvR h0 m l N) A (hpI h0 (m + 2) l) q mid) FP.dconst0 < 0
      · rw [if_pos q1, if_pos (Or.inl ⟨rf, q1⟩)]; exact low
      · rw [if_neg q1, if_neg (by rintro (⟨-, z⟩ | ⟨z, -⟩); exact q1 z; rw [rf] at z; exact absurd z (by decide))]; exact high
/-- what the reference says of the event j after it has looked -/
def CmS (h : Hp) (m j : Nat) (hv : UInt64) : Prop := (hpI h (m + 57) j = 1 ∧ hpD h (m + 56) j = hv ∧ PL hv) ∨ (hpI h (m + 57) j = 0 ∧ hv = c2)
theorem r_looksAt {h0 h : Hp} {m s n l ns N q j : Nat} {A : RecT} (W : VS h0 m s n l ns N A) (F : Fs h0 h m s) (R : RR h m s n A) (hj : j < 4) (hq : A.1 30 j = nI q) (hqN : q < N) :
    ∃ h', f_X9_looksAt m (nI s) (nI j) h = some ((), h') ∧ Fs h0 h' m s ∧ RR h' m s n A ∧ (∀ j', j' ≠ j → hpI h' (m + 57) j' = hpI h (m + 57) j' ∧ hpD h' (m + 56) j' = hpD h (m + 56) j') ∧ CmS h' m j (hvS (vaS (nvR h0 m l N) A (hpI h0 (m + 2) l) q) (A.1 31 j)) := by
  have H := le_RO F.2.1 W.1.1
  have hs := W.2.1
  obtain ⟨r1, r2, r3, r4, r5, r6, r7, r8, r9⟩ := id R
  have x30 := r7 30 (by omega) (by omega) j hj
  have x31 := r7 31 (by omega) (by omega) j hj
  rw [hq] at x30
  unfold f_X9_looksAt
  rw [li4, ni_mul, ni_add, ro_g31 H, Option.bind_some, ro_a31 H (by omega), Option.bind_some, x30, ro_g32 H, Option.bind_some, ro_a32 H (by omega), Option.bind_some, x31, ro_ck H, Option.bind_some]
  generalize hV : vaS (nvR h0 m l N) A (hpI h0 (m + 2) l) q = v
  obtain ⟨h1, e1, F1, R1, i1, d1⟩ := v_valueAt (q := q) W F R hqN pl_0.sb
  have H1 := le_RO F1.2.1 W.1.1
  rw [e1, bnd_some, ro_ck H1, Option.bind_some]
  obtain ⟨h2, e2, F2, R2, i2, d2⟩ := v_valueAt (q := q) W F1 R1 hqN pl_1.sb
  have H2 := le_RO F2.2.1 W.1.1
  rw [e2, bnd_some, hV]
  have dd : ∀ j', hpD h2 (m + 56) j' = hpD h (m + 56) j' := fun j' => by rw [d2 _ (by omega) (by omega), d1 _ (by omega) (by omega)]
  have ii : hpI h2 = hpI h := i2.trans i1
  generalize hway : A.1 31 j = way
  -- after the two values
  have fin : ∀ (v9 cm : Int32) (ris : Bool), (v9 = 0 ↔ ris = false) → (cm = 0 ∨ cm = 1) → (cm = 1 → hvS v way = bsS v ris 30 FP.dconst0 FP.dconst1) → (cm = 0 → hvS v way = c2) → ∃ h', f_X9_looksAt_113 (some m) (nI s) (nI j) (nI q) v9 cm (nI j) (some (m + 57)) h2 = some ((), h') ∧ Fs h0 h' m s ∧ RR h' m s n A ∧ (∀ j', j' ≠ j → hpI h' (m + 57) j' = hpI h (m + 57) j' ∧ hpD h' (m + 56) j' = hpD h (m + 56) j') ∧ CmS h' m j (hvS v way) := by
    intro v9 cm ris hv9 hcm c1 c0
    unfold f_X9_looksAt_113
    have nr : vp_nar .boolean cm = cm := by rcases hcm with rfl | rfl <;> decide
    rw [ro_s59 H2 hj, Option.bind_some, nr]
    have H3 : RO (stI h2 (m + 57) j cm) m := H2
    rw [ro_g58 H3, Option.bind_some, ro_s58 H3 hj, Option.bind_some, stD_rw]
    have H4 : RO (rwD (stI h2 (m + 57) j cm) (m + 56) (up1 (hpD (stI h2 (m + 57) j cm) (m + 56)) j FP.dconst1)) m := H2
    rw [ro_g59 H4, Option.bind_some, ro_a59 H4 hj, Option.bind_some, hpI_rwD, hpI_stI_self]
    have F4 : Fs h0 (rwD (stI h2 (m + 57) j cm) (m + 56) (up1 (hpD (stI h2 (m + 57) j cm) (m + 56)) j FP.dconst1)) m s := (F2.trans (fs_co s j cm)).trans (fs_wk s _ (by omega))
    have R4 : RR (rwD (stI h2 (m + 57) j cm) (m + 56) (up1 (hpD (stI h2 (m + 57) j cm) (m + 56)) j FP.dconst1)) m s n A := rr_wk (by omega) (rr_co R2)
    have I4 : ∀ j', j' ≠ j → hpI (rwD (stI h2 (m + 57) j cm) (m + 56) (up1 (hpD (stI h2 (m + 57) j cm) (m + 56)) j FP.dconst1)) (m + 57) j' = hpI h (m + 57) j' := fun j' hj' => by rw [hpI_rwD, hpI_stI_ne (Or.inr hj'), ii]
    have I5 : hpI (rwD (stI h2 (m + 57) j cm) (m + 56) (up1 (hpD (stI h2 (m + 57) j cm) (m + 56)) j FP.dconst1)) (m + 57) j = cm := by rw [hpI_rwD, hpI_stI_self]
    have D4 : ∀ j', j' ≠ j → hpD (rwD (stI h2 (m + 57) j cm) (m + 56) (up1 (hpD (stI h2 (m + 57) j cm) (m + 56)) j FP.dconst1)) (m + 56) j' = hpD h (m + 56) j' := fun j' hj' => by rw [hpD_rwD_self, up1_ne hj', hpD_stI, dd]
    have D5 : hpD (rwD (stI h2 (m + 57) j cm) (m + 56) (up1 (hpD (stI h2 (m + 57) j cm) (m + 56)) j FP.dconst1)) (m + 56) j = FP.dconst1 := by rw [hpD_rwD_self, up1_self]
    generalize rwD (stI h2 (m + 57) j cm) (m + 56) (up1 (hpD (stI h2 (m + 57) j cm) (m + 56)) j FP.dconst1) = h4 at F4 R4 I4 I5 D4 D5 ⊢
    rcases hcm with rfl | rfl
    · rw [if_neg (by decide)]
      exact ⟨h4, rfl, F4, R4, fun j' hj' => ⟨I4 j' hj', D4 j' hj'⟩, Or.inr ⟨I5, c0 rfl⟩⟩
    · rw [if_pos (by decide)]
      obtain ⟨h5, e5, F5, R5, i5, o5, b5⟩ := r_looksAt_137 W hqN hj hv9 30 0 fuelN FP.dconst0 h4 (by omega) (by unfold fuelN; omega) F4 R4 pl_0 (by rw [D5]; exact pl_1)
      refine ⟨h5, e5, F5, R5, fun j' hj' => ⟨by rw [i5]; exact I4 j' hj', by rw [o5 j' hj']; exact D4 j' hj'⟩, Or.inl ⟨by rw [i5]; exact I5, ?_, ?_⟩⟩
      · rw [b5, D5, hV, c1 rfl]
      · rw [c1 rfl]; exact pl_bsS _ _ _ pl_0 pl_1
  by_cases ris : risP (v FP.dconst0) (v FP.dconst1) way
  · -- it rises: whatever else
    have hv : hvS v way = bsS v true 30 FP.dconst0 FP.dconst1 := by unfold hvS; rw [if_pos ris]
    have go := fin 1 1 true (by decide) (Or.inr rfl) (fun _ => hv) (fun z => absurd z (by decide))
    rw [if_neg ris.1, if_neg ris.2.1, if_neg ris.2.2]
    unfold f_X9_looksAt_65 f_X9_looksAt_90 f_X9_looksAt_91 f_X9_looksAt_108
    simp only [ro_g59 H2, Option.bind_some]
    simp only [show ¬ (1 : Int32) = 0 by decide, not_false_eq_true, if_true, ite_self]
    exact go
  · have e64 : (if 0 ≤ cg (v FP.dconst0) FP.dconst0 then f_X9_looksAt_64 (some m) (nI s) (nI j) (nI q) way (v FP.dconst0) (v FP.dconst1) h2 else if cl (v FP.dconst1) FP.dconst0 < 0 then f_X9_looksAt_64 (some m) (nI s) (nI j) (nI q) way (v FP.dconst0) (v FP.dconst1) h2 else if way < 0 then f_X9_looksAt_64 (some m) (nI s) (nI j) (nI q) way (v FP.dconst0) (v FP.dconst1) h2 else f_X9_looksAt_65 (some m) (nI s) (nI j) (nI q) way (v FP.dconst0) (v FP.dconst1) 1 h2) = f_X9_looksAt_65 (some m) (nI s) (nI j) (nI q) way (v FP.dconst0) (v FP.dconst1) 0 h2 := by
      by_cases a1 : 0 ≤ cg (v FP.dconst0) FP.dconst0
      · rw [if_pos a1]; rfl
      · rw [if_neg a1]
        by_cases a2 : cl (v FP.dconst1) FP.dconst0 < 0
        · rw [if_pos a2]; rfl
        · rw [if_neg a2]
          by_cases a3 : way < 0
          · rw [if_pos a3]; rfl
          · exact absurd ⟨a1, a2, a3⟩ ris
    rw [e64]
    unfold f_X9_looksAt_65 f_X9_looksAt_90 f_X9_looksAt_91 f_X9_looksAt_108
    simp only [ro_g59 H2, Option.bind_some]
    by_cases fal : falP (v FP.dconst0) (v FP.dconst1) way
    · have hv : hvS v way = bsS v false 30 FP.dconst0 FP.dconst1 := by unfold hvS; rw [if_neg ris, if_pos fal]
      have go := fin 0 1 false (by decide) (Or.inr rfl) (fun _ => hv) (fun z => absurd z (by decide))
      rw [if_neg fal.1, if_neg fal.2.1, if_neg fal.2.2, if_neg (by decide), if_neg (by decide)]
      exact go
    · have hv : hvS v way = c2 := by unfold hvS; rw [if_neg ris, if_neg fal]
      have go := fin 0 0 false (by decide) (Or.inl rfl) (fun z => absurd z (by decide)) (fun _ => hv)
      by_cases a1 : cl (v FP.dconst0) FP.dconst0 ≤ 0
      · rw [if_pos a1, if_neg (by decide), if_pos (by decide)]; exact go
      · rw [if_neg a1]
        by_cases a2 : 0 < cg (v FP.dconst1) FP.dconst0
        · rw [if_pos a2, if_neg (by decide), if_pos (by decide)]; exact go
        · rw [if_neg a2]
          by_cases a3 : 0 < way
          · rw [if_pos a3, if_neg (by decide), if_pos (by decide)]; exact go
          · exact absurd ⟨a1, a2, a3⟩ fal
