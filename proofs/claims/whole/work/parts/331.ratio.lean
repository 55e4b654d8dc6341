/-! ===== a step's ERROR, and what comes of it ===== -/
def mxK (a b : UInt64) : UInt64 := if ky a < ky b then b else a
def rtO (x z e : Nat → UInt64) (a b : UInt64) (i : Nat) : UInt64 := cn (FP.ddiv (mk (e i)) (cn (FP.dadd a (cn (FP.dmul b (mxK (mk (x i)) (mk (z i))))))))
def rtS (x z e : Nat → UInt64) (a b : UInt64) : Nat → UInt64
  | 0 => FP.dconst0
  | i + 1 => if cl (rtO x z e a b i) (rtS x z e a b i) ≤ 0 then rtS x z e a b i else rtO x z e a b i
theorem rtO_congr {x z e x' z' e' : Nat → UInt64} {a b : UInt64} {i : Nat} (h1 : x i = x' i) (h2 : z i = z' i) (h3 : e i = e' i) : rtO x z e a b i = rtO x' z' e' a b i := by unfold rtO; rw [h1, h2, h3]
theorem rtS_congr {x z e x' z' e' : Nat → UInt64} {a b : UInt64} {n : Nat} (h1 : ∀ i, i < n → x i = x' i) (h2 : ∀ i, i < n → z i = z' i) (h3 : ∀ i, i < n → e i = e' i) : rtS x z e a b n = rtS x' z' e' a b n := by
  induction n with
  | zero => rfl
  | succ n ih => rw [rtS, rtS, ih (fun i hi => h1 i (by omega)) (fun i hi => h2 i (by omega)) (fun i hi => h3 i (by omega)), rtO_congr (h1 n (by omega)) (h2 n (by omega)) (h3 n (by omega))]
theorem mxK_cg {a b : UInt64} (ha : Nm a) (hb : Nm b) : (if 0 ≤ cg a b then a else b) = mxK a b := by
  unfold mxK
  by_cases q : 0 ≤ cg a b
  · rw [if_pos q, if_neg]
    rw [cg_ge] at q
    rcases q with q | q
    · exact absurd ⟨ha, hb⟩ q
    · omega
  · rw [if_neg q, if_pos]
    rw [cg_ge] at q
    exact Int.not_le.mp (fun z => q (Or.inr z))
theorem r_ratio {h : Hp} {m s n : Nat} (H : RO h m) (hs : s < 9) (hn : n ≤ 6) (hx : ∀ i, i < n → Nm (hpD h (m + 45) i)) (hz : ∀ i, i < n → Nm (hpD h (m + 47) i)) (he : ∀ i, i < n → Nm (hpD h (m + 49) i)) :
    f_X9_greatestRatio m (nI s) (nI n) h = some (rtS (hpD h (m + 45)) (hpD h (m + 47)) (hpD h (m + 49)) (hpD h (m + 26) s) (hpD h (m + 27) s) n, h) := by
  unfold f_X9_greatestRatio
  generalize hT : rtS (hpD h (m + 45)) (hpD h (m + 47)) (hpD h (m + 49)) (hpD h (m + 26) s) (hpD h (m + 27) s) = T
  have key : ∀ (d i fuel : Nat), i + d = n → d < fuel → f_X9_greatestRatio_5 fuel (some m) (nI s) (nI n) (T i) (nI i) h = some (T n, h) := by
    intro d
    induction d with
    | zero =>
      intro i fuel hi hf
      obtain ⟨fuel, rfl⟩ : ∃ j, fuel = j + 1 := ⟨fuel - 1, by omega⟩
      have : i = n := by omega
      subst this
      simp only [f_X9_greatestRatio_5, if_pos (show nI i ≤ nI i from (ni_le (by omega) (by omega)).mpr (Nat.le_refl _))]
    | succ d ih =>
      intro i fuel hi hf
      obtain ⟨fuel, rfl⟩ : ∃ j, fuel = j + 1 := ⟨fuel - 1, by omega⟩
      have nx := hx i (by omega)
      have nz := hz i (by omega)
      have ne := he i (by omega)
      have IH := ih (i + 1) fuel (by omega) (by omega)
      have eT : T (i + 1) = if cl (rtO (hpD h (m + 45)) (hpD h (m + 47)) (hpD h (m + 49)) (hpD h (m + 26) s) (hpD h (m + 27) s) i) (T i) ≤ 0 then T i else rtO (hpD h (m + 45)) (hpD h (m + 47)) (hpD h (m + 49)) (hpD h (m + 26) s) (hpD h (m + 27) s) i := by rw [← hT]; rfl
      have em := mxK_cg (nm_mk.mpr nx) (nm_mk.mpr nz)
      simp only [f_X9_greatestRatio_5, if_neg (show ¬ nI n ≤ nI i by rw [ni_le (by omega) (by omega)]; omega), ro_g47 H, ro_g49 H, ro_g51 H, ro_g27 H, ro_g28 H, Option.bind_some, ro_a47 H (show i < 6 by omega), ro_a49 H (show i < 6 by omega), ro_a51 H (show i < 6 by omega), ro_a27 H hs, ro_a28 H hs, r_size (Or.inl nx), r_size (Or.inl nz), r_size (Or.inl ne), bnd_some, f_X9_greatestRatio_72, f_X9_greatestRatio_93, r_times, r_plus, r_by, li1, ni_add]
      rw [eT] at IH
      unfold rtO at IH
      rw [← em] at IH
      by_cases q : 0 ≤ cg (mk (hpD h (m + 45) i)) (mk (hpD h (m + 47) i))
      · rw [if_pos q]
        rw [if_pos q] at IH
        split
        · rename_i z; rw [if_pos z] at IH; exact IH
        · rename_i z; rw [if_neg z] at IH; exact IH
      · rw [if_neg q]
        rw [if_neg q] at IH
        split
        · rename_i z; rw [if_pos z] at IH; exact IH
        · rename_i z; rw [if_neg z] at IH; exact IH
  have := key n 0 fuelN (by omega) (by unfold fuelN; omega)
  rw [← hT, rtS, hT] at this
  exact this
/-- a PAIR's next length -/
def lg0 (h off : UInt64) : UInt64 := if 0 < cg off 4580160821035794432 then (if 0 < cg off 4593671619917905920 then h else FP.dmul h 4611686018427387904) else FP.dmul h 4616189618054758400
def lgS (h off : UInt64) : UInt64 := if cl (mk (lg0 h off)) 4652218415073722368 ≤ 0 then lg0 h off else (if 0 ≤ cg (lg0 h off) FP.dconst0 then 4652218415073722368 else 13875590451928498176)
theorem nm_lg0 {h off : UInt64} (fh : HB h) : Nm (lg0 h off) := by
  have f2 : Fn 4611686018427387904 := by show (ky _).natAbs < _; rw [ky_c2]; decide
  have f4 : Fn 4616189618054758400 := by show (ky _).natAbs < _; rw [ky_c4]; decide
  unfold lg0
  split
  · split
    · exact fh.fn.nm
    · exact mul_nm fh.fn f2
  · exact mul_nm fh.fn f4
theorem r_longer {hh off : UInt64} (fh : HB hh) (h : Hp) : f_X9_longer hh off h = some (lgS hh off, h) := by
  have f2 : Fn 4611686018427387904 := by show (ky _).natAbs < _; rw [ky_c2]; decide
  have f4 : Fn 4616189618054758400 := by show (ky _).natAbs < _; rw [ky_c4]; decide
  have n0 : Nm (lg0 hh off) := nm_lg0 fh
  have e : f_X9_longer hh off h = f_X9_longer_33 (lg0 hh off) h := by
    unfold f_X9_longer lg0
    split
    · split
      · rfl
      · rw [fop_ok (mul_nm fh.fn f2)]; rfl
    · rw [fop_ok (mul_nm fh.fn f4)]; rfl
  rw [e]
  unfold f_X9_longer_33 lgS f_X9_longer_63
  rw [r_size (Or.inl n0), bnd_some]
  split
  · rfl
  · split <;> rfl
theorem ky_1024 : ky 4652218415073722368 = 4652218415073722368 := by decide +kernel
theorem ky_1024n : ky 13875590451928498176 = -4652218415073722368 := by decide +kernel
theorem hb_lgS {h off : UInt64} (fh : HB h) : HB (lgS h off) := by
  have n0 : Nm (lg0 h off) := nm_lg0 fh
  have k := ky_1024
  have k2 := ky_1024n
  unfold lgS
  split
  · rename_i q
    rw [cl_le, ky_1024, ky_mk] at q
    show (ky (lg0 h off)).natAbs < 4656722014701092864
    rcases q with q | q
    · exact absurd ⟨nm_mk.mpr n0, nm_c k (by omega)⟩ q
    · omega
  · split
    · show (ky _).natAbs < 4656722014701092864; rw [k]; decide
    · show (ky _).natAbs < 4656722014701092864; rw [k2]; decide
/-- is the step tame: as a truth value -/
noncomputable def tmB (F : FT) (nar : Int32) (n M : Nat) (t h : UInt64) (x : Nat → UInt64) : Bool := @decide (Tame F nar n M t h x) (Classical.propDecidable _)
theorem tmB_t {F : FT} {nar : Int32} {n M : Nat} {t h : UInt64} {x : Nat → UInt64} : tmB F nar n M t h x = true ↔ Tame F nar n M t h x := by
  unfold tmB
  exact @decide_eq_true_iff _ (Classical.propDecidable _)
noncomputable def offS (F : FT) (nar : Int32) (n M : Nat) (t : UInt64) (x : Nat → UInt64) (a b h : UInt64) : UInt64 := if M = 4 then rtS x (zS F nar n M t h x) (eP F nar t h x) a b n else FP.dconst0
def nxH (h off : UInt64) : UInt64 := if 0 < cg off 4620693217682128896 then FP.ddiv h 4616189618054758400 else FP.ddiv h 4611686018427387904
/-- steps made anew while they are rejected: code, how many were, the length, the error -/
noncomputable def attS (F : FT) (nar : Int32) (n M : Nat) (t : UInt64) (x : Nat → UInt64) (a b : UInt64) : Nat → Nat → UInt64 → Int32 × Nat × UInt64 × UInt64
  | 0, no, h => (-5, no, h, 0)
  | d + 1, no, h => if tmB F nar n M t h x = true then
      (if 0 < cg (offS F nar n M t x a b h) FP.dconst1 then
        (if 0 ≤ cg (mk (nxH h (offS F nar n M t x a b h))) 4472074429978902528 then attS F nar n M t x a b d (no + 1) (nxH h (offS F nar n M t x a b h)) else (-5, no, h, 0))
      else (0, no, h, offS F nar n M t x a b h))
    else (-4, no, h, 0)
theorem hb_nxH {h off : UInt64} (fh : HB h) : HB (nxH h off) := by
  unfold nxH
  split
  · exact hb_div fh ky_c4 (by omega)
  · exact hb_div fh ky_c2 (by omega)
theorem attS_spec {F : FT} {nar : Int32} {n M : Nat} {t : UInt64} {x : Nat → UInt64} {a b : UInt64} : ∀ (d no : Nat) (h : UInt64), HB h → let r := attS F nar n M t x a b d no h; (r.1 = -4 ∨ r.1 = -5) ∨ (r.1 = 0 ∧ HB r.2.2.1 ∧ Tame F nar n M t r.2.2.1 x ∧ r.2.2.2 = offS F nar n M t x a b r.2.2.1 ∧ r.2.1 < no + d ∧ no ≤ r.2.1 ∧ (r.2.1 = no → r.2.2.1 = h) ∧ (M ≠ 4 → r.2.1 = no)) := by
  intro d
  induction d with
  | zero => intro no h _; exact Or.inl (Or.inr rfl)
  | succ d ih =>
    intro no h fh
    dsimp only
    rw [attS]
    by_cases q : tmB F nar n M t h x = true
    · rw [if_pos q]
      by_cases q1 : 0 < cg (offS F nar n M t x a b h) FP.dconst1
      · rw [if_pos q1]
        by_cases q2 : 0 ≤ cg (mk (nxH h (offS F nar n M t x a b h))) 4472074429978902528
        · rw [if_pos q2]
          have := ih (no + 1) (nxH h (offS F nar n M t x a b h)) (hb_nxH fh)
          dsimp only at this
          rcases this with z | ⟨z1, z2, z3, z4, z5, z6, z7, z8⟩
          · exact Or.inl z
          · refine Or.inr ⟨z1, z2, z3, z4, by omega, by omega, fun w => by omega, fun w => ?_⟩
            exfalso
            unfold offS at q1
            rw [if_neg w] at q1
            exact absurd q1 (by decide +kernel)
        · rw [if_neg q2]; exact Or.inl (Or.inr rfl)
      · rw [if_neg q1]
        exact Or.inr ⟨rfl, fh, tmB_t.mp q, rfl, by show no < no + (d + 1); omega, Nat.le_refl _, fun _ => rfl, fun _ => rfl⟩
    · rw [if_neg q]; exact Or.inl (Or.inl rfl)
