/-! ===== what lies between ===== -/
def cuM (A : RecT) (s : UInt64) (i : Nat) : UInt64 :=
  cn (FP.dadd (cn (FP.dmul (FP.dmul (FP.dsub FP.dconst1 s) (FP.dsub FP.dconst1 s)) (cn (FP.dadd (cn (FP.dmul (FP.dadd FP.dconst1 (FP.dmul c2 s)) (A.2 39 i))) (cn (FP.dmul (FP.dmul s (A.2 38 0)) (A.2 41 i)))))))
    (cn (FP.dmul (FP.dmul s s) (cn (FP.dsub (cn (FP.dmul (FP.dadd FP.dconst1 (FP.dmul c2 (FP.dsub FP.dconst1 s))) (A.2 40 i))) (cn (FP.dmul (FP.dmul (FP.dsub FP.dconst1 s) (A.2 38 0)) (A.2 42 i))))))))
def cuS (A : RecT) (nar : Int32) (s : UInt64) (i : Nat) : UInt64 := if cl s FP.dconst0 = 0 then A.2 39 i else if cl s FP.dconst1 = 0 then A.2 40 i else pV (narB nar (nI i)) (cuM A s i)
/-- a place in a step: below 2 -/
def SB (s : UInt64) : Prop := (ky s).natAbs < 4611686018427387904
theorem dmul_kb {a b : UInt64} {Ka Kb : Nat} (ha : (ky a).natAbs < Ka * 2 ^ 52) (hb : (ky b).natAbs < Kb * 2 ^ 52) (hKa : Ka ≤ 2047) (hKb : Kb ≤ 2047) : (ky (FP.dmul a b)).natAbs < (Ka + Kb - 1025 + 3) * 2 ^ 52 := by
  rw [ky_mod] at ha hb ⊢
  exact FP.Core.dmul_mag ha hb hKa hKb
theorem dadd_kb {a b : UInt64} {K : Nat} (ha : (ky a).natAbs < K * 2 ^ 52) (hb : (ky b).natAbs < K * 2 ^ 52) (hK : K ≤ 2047) : (ky (FP.dadd a b)).natAbs < (K + 2) * 2 ^ 52 := by
  rw [ky_mod] at ha hb ⊢
  exact FP.Core.dadd_mag ha hb hK
theorem dsub_kb {a b : UInt64} {K : Nat} (ha : (ky a).natAbs < K * 2 ^ 52) (hb : (ky b).natAbs < K * 2 ^ 52) (hK : K ≤ 2047) : (ky (FP.dsub a b)).natAbs < (K + 2) * 2 ^ 52 := by
  rw [ky_mod] at ha hb ⊢
  exact FP.Core.dsub_mag ha hb hK
theorem kb_fn {a : UInt64} {K : Nat} (h : (ky a).natAbs < K * 2 ^ 52) (hK : K ≤ 2047) : Fn a := by
  show (ky a).natAbs < 9218868437227405312
  omega
theorem kb_c1 : (ky FP.dconst1).natAbs < 1024 * 2 ^ 52 := by rw [ky_1]; decide
theorem kb_c2 : (ky c2).natAbs < 1025 * 2 ^ 52 := by rw [ky_c2]; decide
/-- none of what is reckoned of the place alone is no number -/
theorem sb_all {s h : UInt64} (a : SB s) (b : HB h) : Fn (FP.dsub FP.dconst1 s) ∧ Fn (FP.dmul (FP.dsub FP.dconst1 s) (FP.dsub FP.dconst1 s)) ∧ Fn (FP.dmul c2 s) ∧ Fn (FP.dadd FP.dconst1 (FP.dmul c2 s)) ∧ Fn (FP.dmul s h) ∧ Fn (FP.dmul s s) ∧ Fn (FP.dmul c2 (FP.dsub FP.dconst1 s)) ∧ Fn (FP.dadd FP.dconst1 (FP.dmul c2 (FP.dsub FP.dconst1 s))) ∧ Fn (FP.dmul (FP.dsub FP.dconst1 s) h) := by
  have a' : (ky s).natAbs < 1024 * 2 ^ 52 := by have q : (ky s).natAbs < 4611686018427387904 := a; omega
  have b' : (ky h).natAbs < 1034 * 2 ^ 52 := by have q : (ky h).natAbs < 4656722014701092864 := b; omega
  have u := dsub_kb kb_c1 a' (by omega)
  have uu := dmul_kb u u (by omega) (by omega)
  have s2 := dmul_kb kb_c2 a' (by omega) (by omega)
  have s3 := dadd_kb (K := 1027) (a := FP.dconst1) (by have := kb_c1; omega) s2 (by omega)
  have sh := dmul_kb a' b' (by omega) (by omega)
  have ss := dmul_kb a' a' (by omega) (by omega)
  have u2 := dmul_kb kb_c2 u (by omega) (by omega)
  have u3 := dadd_kb (K := 1029) (a := FP.dconst1) (by have := kb_c1; omega) u2 (by omega)
  have uh := dmul_kb u b' (by omega) (by omega)
  exact ⟨kb_fn u (by omega), kb_fn uu (by omega), kb_fn s2 (by omega), kb_fn s3 (by omega), kb_fn sh (by omega), kb_fn ss (by omega), kb_fn u2 (by omega), kb_fn u3 (by omega), kb_fn uh (by omega)⟩
theorem r_cubic {h : Hp} {m s n l i : Nat} {A : RecT} {at' : UInt64} (H : RO h m) (hs : s < 9) (R : RR h m s n A) (hst : A.1 22 0 = 1) (hl : A.1 14 0 = nI l) (hl8 : l < 8) (hh : HB (A.2 38 0)) (hi : i < n) (hn : n ≤ 6) (sb : SB at') :
    f_X9_cubic m (nI s) (nI i) at' h = some (cuS A (hpI h (m + 2) l) at' i, h) := by
  obtain ⟨r1, r2, r3, r4, r5, r6, r7, r8, r9⟩ := R
  obtain ⟨q1, -, -⟩ := r9 hst
  have x39 := q1 39 (by omega) (by omega) i hi
  have x40 := q1 40 (by omega) (by omega) i hi
  have x41 := q1 41 (by omega) (by omega) i hi
  have x42 := q1 42 (by omega) (by omega) i hi
  have x14 := r1 14 (by omega) (by omega)
  obtain ⟨n1, n2, n3, n4, n5, n6, n7, n8, n9⟩ := sb_all sb hh
  unfold f_X9_cubic cuS cuM
  simp only [li6, ni_mul, ni_add, ro_g39 H, ro_g40 H, ro_g41 H, ro_g42 H, ro_g43 H, ro_g15 H, Option.bind_some, ro_a39 H hs, ro_a40 H (show 6 * s + i < 54 by omega), ro_a41 H (show 6 * s + i < 54 by omega), ro_a42 H (show 6 * s + i < 54 by omega), ro_a43 H (show 6 * s + i < 54 by omega), ro_a15 H hs, x39, x40, x41, x42, x14, hl, r5, fop_ok n1.nm, fop_ok n2.nm, fop_ok n3.nm, fop_ok n4.nm, fop_ok n5.nm, fop_ok n6.nm, fop_ok n7.nm, fop_ok n8.nm, fop_ok n9.nm, r_times, r_plus, r_less, bnd_some, ro_ck H, r_put H hl8]
  by_cases q1 : cl at' FP.dconst0 = 0
  · rw [if_neg (fun z => z q1), if_pos q1]
  · rw [if_pos q1, if_neg q1]
    by_cases q2 : cl at' FP.dconst1 = 0
    · rw [if_neg (fun z => z q2), if_pos q2]
    · rw [if_pos q2, if_neg q2]
theorem nvR_dep {h : Hp} {m l n ns N : Nat} {t : UInt64} {x y : Nat → UInt64} (L : LwOK h m l n ns N) (hsg : SgOK h m ns) (hxy : ∀ j, j < n → x j = y j) (f0 : Nat → UInt64) : ∀ q, q < N → nvS (wR h m l t x) N f0 q = nvR h m l N t y q := by
  intro q hq
  unfold nvR
  refine nvS_any (N := N) (fun q a b hq hab => ?_) N (Nat.le_refl _) _ hq
  obtain ⟨hl, hN, hn1, hn6, -, -, hnd⟩ := L
  obtain ⟨-, g0, g1, g2, g3, -⟩ := ndok_tc (hnd q hq).1 (by omega) (by omega) (by have := hsg.1; omega)
  unfold wR
  rw [wV_dep hab g1 g2 g3]
  exact wV_depx hxy g0
def vaS (V : UInt64 → (Nat → UInt64) → Nat → UInt64) (A : RecT) (nar : Int32) (q : Nat) (s : UInt64) : UInt64 := V (FP.dadd (A.2 37 0) (FP.dmul s (A.2 38 0))) (cuS A nar s) q
theorem cv_cuS {A : RecT} {nar : Int32} {s : UInt64} {i : Nat} (h1 : Cv (A.2 39 i)) (h2 : Cv (A.2 40 i)) : Cv (cuS A nar s i) := by
  unfold cuS
  split
  · exact h1
  · split
    · exact h2
    · exact cv_pV (cv_cn _)
theorem r_valueAt {h : Hp} {m s n l ns N q : Nat} {A : RecT} {at' : UInt64} (X : SX h m l n ns N) (hs : s < 9) (R : RR h m s n A) (hst : A.1 22 0 = 1) (hl : A.1 14 0 = nI l) (hh : HB (A.2 38 0)) (nt : Nm (A.2 37 0)) (c0 : ∀ i, i < n → Cv (A.2 39 i)) (c1 : ∀ i, i < n → Cv (A.2 40 i)) (hq : q < N) (sb : SB at') :
    ∃ h', f_X9_valueAt m (nI s) (nI q) at' h = some (vaS (nvR h m l N) A (hpI h (m + 2) l) q at', h') ∧ Fs h h' m s ∧ RR h' m s n A ∧ hpI h' = hpI h ∧ (∀ a, a ≠ m + 44 → a ≠ m + 54 → hpD h' a = hpD h a) := by
  obtain ⟨H, L, s1, s2, s3⟩ := id X
  have hl8 := L.1
  have hN := L.2.1
  have hn := L.2.2.2.1
  have e1 := L.2.2.2.2.1
  obtain ⟨r1, r2, r3, r4, r5, r6, r7, r8, r9⟩ := id R
  have sa := sb_all sb hh
  have ntv : Nm (FP.dadd (A.2 37 0) (FP.dmul at' (A.2 38 0))) := add_nm2 nt sa.2.2.2.2.1
  unfold f_X9_valueAt
  rw [ro_g15 H, Option.bind_some, ro_a15 H hs, Option.bind_some, r1 14 (by omega) (by omega), hl]
  generalize hE : cuS A (hpI h (m + 2) l) at' = E
  have hEc : ∀ i, i < n → Cv (E i) := fun i hi => by rw [← hE]; exact cv_cuS (c0 i hi) (c1 i hi)
  have := row_loop (fun fuel i hh => f_X9_valueAt_11 fuel (some m) (nI s) (nI q) at' (nI l) i hh) (h := h) (dst := m + 54) (n := n) (E := E) (old := hpD h (m + 54)) (res := some (vaS (nvR h m l N) A (hpI h (m + 2) l) q at', rwD (rwD h (m + 54) (rowU n E (hpD h (m + 54)))) (m + 44) (nvS (wR (rwD h (m + 54) (rowU n E (hpD h (m + 54)))) m l (FP.dadd (A.2 37 0) (FP.dmul at' (A.2 38 0))) (hpD (rwD h (m + 54) (rowU n E (hpD h (m + 54)))) (m + 54))) N (hpD (rwD h (m + 54) (rowU n E (hpD h (m + 54)))) (m + 44))))) (by omega) ?_ ?_
  · rw [rwD_self] at this
    refine ⟨_, this, ?_, ?_, rfl, fun a h1 h2 => ?_⟩
    · exact (fs_wk s _ (by omega)).trans (fs_wk s _ (by omega))
    · exact rr_wk (by omega) (rr_wk (by omega) R)
    · rw [hpD_rwD_ne h1, hpD_rwD_ne h2]
  · intro fuel i hi
    have H' := H.rwD (m + 54) (rowU i E (hpD h (m + 54)))
    have R' : RR (rwD h (m + 54) (rowU i E (hpD h (m + 54)))) m s n A := rr_wk (by omega) R
    rw [f_X9_valueAt_11, ro_g0 H', Option.bind_some, ro_a0 H' hl8, Option.bind_some, hpI_rwD, e1, if_neg (show ¬ nI n ≤ nI i by rw [ni_le (by omega) (by omega)]; omega), ro_g56 H', Option.bind_some, ro_ck H', Option.bind_some, r_cubic H' hs R' hst hl hl8 hh hi hn sb, bnd_some, ro_s56 H' (by omega), Option.bind_some, rwD_stD, hpI_rwD, hE, rowU_s, li1, ni_add]
  · intro fuel
    have H' := H.rwD (m + 54) (rowU n E (hpD h (m + 54)))
    have LE' : LE h (rwD h (m + 54) (rowU n E (hpD h (m + 54)))) m := (fs_wk s _ (by omega)).2.1
    have X' := le_SX LE' X
    rw [f_X9_valueAt_11, ro_g0 H', Option.bind_some, ro_a0 H' hl8, Option.bind_some, hpI_rwD, e1, if_pos (show nI n ≤ nI n from (ni_le (by omega) (by omega)).mpr (Nat.le_refl _)), ro_g38 H', Option.bind_some, ro_a38 H' hs, Option.bind_some, ro_g39 H', Option.bind_some, ro_a39 H' hs, Option.bind_some, hpD_rwD_ne (by omega), hpD_rwD_ne (by omega), r4, r5, fop_ok sa.2.2.2.2.1.nm, Option.bind_some, fop_ok ntv, Option.bind_some, ro_g56 H', Option.bind_some, ro_ck H', Option.bind_some]
    rw [r_all (st := m + 54) H' X'.2.1 X'.2.2.1 X'.2.2.2.1 (ro_k56 H') (by omega) (Or.inl ntv) (fun j hj => by rw [hpD_rwD_self, rowU_lt hj]; exact hEc j hj), bnd_some]
    have H2 := H'.rwD (m + 44) (nvS (wR (rwD h (m + 54) (rowU n E (hpD h (m + 54)))) m l (FP.dadd (A.2 37 0) (FP.dmul at' (A.2 38 0))) (hpD (rwD h (m + 54) (rowU n E (hpD h (m + 54)))) (m + 54))) N (hpD (rwD h (m + 54) (rowU n E (hpD h (m + 54)))) (m + 44)))
    rw [ro_g46 H2, Option.bind_some, ro_a46 H2 (by omega), Option.bind_some, hpD_rwD_self]
    rw [nvR_dep X'.2.1 X'.2.2.1 (y := E) (fun j hj => by rw [hpD_rwD_self, rowU_lt hj]) _ q hq, le_nvR LE', ← hE]
    rfl
