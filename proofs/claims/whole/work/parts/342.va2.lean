theorem fn_of_pV {b : Bool} {x y : UInt64} (h : Fn (pV b (cn (FP.dadd x y)))) : Fn x := by
  have hx := nm_of_pV h
  by_cases q : Fn x
  · exact q
  · exfalso
    have kx := nfn hx q
    obtain ⟨s, hs⟩ := inf_ky.mpr kx
    by_cases hn : Nm (FP.dadd x y)
    · rw [cn_nm hn] at h
      have hi : FP.Core.val64 (FP.dadd x y) = .inf s := by
        have hv := FP.Core.val64_dadd x y
        have hnn : FP.Core.val64 (FP.Core.dadd x y) ≠ .nan := nm_val.mp hn
        show FP.Core.val64 (FP.Core.dadd x y) = _
        rw [hv, hs] at hnn
        rw [hv, hs]
        cases hy : FP.Core.val64 y with
        | nan => rw [hy] at hnn; exact absurd rfl hnn
        | inf t =>
          rw [hy] at hnn
          simp only [FP.Core.exactSum] at hnn ⊢
          by_cases e : s = t
          · rw [if_pos e]; rfl
          · rw [if_neg e] at hnn; exact absurd rfl hnn
        | fin t d r => rfl
      unfold pV at h
      split at h
      · -- through a float
        have n1 := nm_is.mp hn
        rw [FP.d2f_core n1] at h
        have hf : FP.Core.val32 (FP.Core.d2f (FP.dadd x y)) = .inf s := by rw [FP.Core.val32_d2f, hi]; rfl
        have nf : FP.fIsNaN (FP.Core.d2f (FP.dadd x y)) = false := FP.Core.d2f_out n1
        rw [FP.f2d_core nf] at h
        have hd : FP.Core.val64 (FP.Core.f2d (FP.Core.d2f (FP.dadd x y))) = .inf s := by rw [FP.Core.val64_f2d, hf]; rfl
        have := inf_ky.mp ⟨s, hd⟩
        have := fnk h
        omega
      · have := inf_ky.mp ⟨s, hi⟩
        have := fnk h
        omega
    · rw [cn_no hn] at h
      unfold pV at h
      rw [if_neg (fun z => nm_nanV z.2)] at h
      exact nm_nanV h.nm
theorem nm_rtS {x z e : Nat → UInt64} {a b : UInt64} {n : Nat} (hx : ∀ i, i < n → Fn (x i)) (hz : ∀ i, i < n → Fn (z i)) (he : ∀ i, i < n → Fn (e i)) (ha : Fn a ∧ 0 < ky a) (hb : Fn b ∧ 0 ≤ ky b) : Nm (rtS x z e a b n) := by
  induction n with
  | zero => exact nm_0
  | succ n ih =>
    rw [rtS]
    split
    · exact ih (fun i hi => hx i (by omega)) (fun i hi => hz i (by omega)) (fun i hi => he i (by omega))
    · exact (nm_rtO (hx n (by omega)).nm (hz n (by omega)) (hx n (by omega)) (he n (by omega)) ha hb).1
/-- what the sides tell is always a value -/
def CF (F : FT) (n : Nat) : Prop := ∀ t x, Nm t → (∀ i, i < n → Cv (x i)) → ∀ i, i < n → Cv (F t x i)
theorem cf_fR {h : Hp} {m l n ns N : Nat} (X : SX h m l n ns N) : CF (fR h m l N) n := fun _ _ ht hx => cv_fR X (Or.inl ht) hx
theorem tame_x {F : FT} {nar : Int32} {n : Nat} {t h : UInt64} {x : Nat → UInt64} (T : Tame F nar n 4 t h x) : ∀ i, i < n → Fn (x i) := fun i hi => fn_of_pV (T.2.2.2.1 i hi)
theorem nm_offS {F : FT} {nar : Int32} {n M : Nat} {t h : UInt64} {x : Nat → UInt64} {a b : UInt64} (T : Tame F nar n M t h x) (ha : Fn a ∧ 0 < ky a) (hb : Fn b ∧ 0 ≤ ky b) : Nm (offS F nar n M t x a b h) := by
  unfold offS
  split
  · rename_i q
    subst q
    exact nm_rtS (tame_x T) T.2.2.2.1 (T.2.2.1 rfl) ha hb
  · exact nm_0
theorem va_tk {T B n N M no : Nat} {A : RecT} {F : FT} {nar : Int32} {hf endv : UInt64} {isCut : Bool} (v : VA T B n N A) (hM : A.1 15 0 = nI M) (hM6 : M ≤ 6) (hT : T < 1000000) (cF : CF F n) (fh : HB hf) (Tm : Tame F nar n M (A.2 24 0) hf (A.2 29)) (he : isCut = true → Nm endv ∧ endv ≠ mz) :
    VA (T + 1) B n N (tkS A F nar n M no hf (offS F nar n M (A.2 24 0) (A.2 29) (A.2 26 0) (A.2 27 0) hf) isCut endv) := by
  obtain ⟨a1, a2, ⟨tk, a3, a4, a5⟩, a6, a7, a8, a9, a10, a11, a12, a13, a14, a15, a16, a17⟩ := v
  have nt := add_nm2 a9.1 fh.fn
  have cz := fun i hi => cv_zS (F := F) (nar := nar) (M := M) (t := A.2 24 0) (h := hf) a15 i hi
  refine ⟨a1, a2, ⟨tk + 1, ?_, by omega, ?_⟩, a6, a7, Or.inr rfl, ?_, ?_, a11, a12, nm_offS Tm a11 a12, fh, cz, a16, fun _ => ⟨a1, a9, fun i hi => ?_⟩⟩
  · show A.1 17 0 + 1 = _
    rw [a3, li1, ni_add]
  · exact ⟨fun _ => by omega, fun _ => rfl⟩
  · show Nm (if isCut = true then endv else _) ∧ (if isCut = true then endv else _) ≠ mz
    by_cases q : isCut = true
    · rw [if_pos q]; exact he q
    · rw [if_neg q]; exact ⟨nt, dadd_nz a9.1 fh.fn a9.2⟩
  · show HB (if isCut = true then A.2 25 0 else if M = 4 ∧ no = 0 then lgS hf _ else hf)
    split
    · exact a10
    · split
      · exact hb_lgS fh
      · exact fh
  · have eM : tc ((tkS A F nar n M no hf (offS F nar n M (A.2 24 0) (A.2 29) (A.2 26 0) (A.2 27 0) hf) isCut endv).1 36 0) = M := by
      show tc (A.1 15 0) = M
      rw [hM]; exact ni_cl (by omega)
    rw [eM]
    have k0 := Tm.1 0 (sgN_le M).1 i hi
    rw [kS_0] at k0
    refine ⟨a15 i hi, cz i hi, Or.inl k0.nm, cF _ _ nt cz i hi, fun j hj => ?_, fun q => Or.inl (Tm.2.2.1 q i hi).nm⟩
    have := Tm.1 j hj i hi
    have s4 := (sgN_le M).2
    rcases (by omega : j = 0 ∨ j = 1 ∨ j = 2 ∨ j = 3) with rfl | rfl | rfl | rfl <;> exact Or.inl this.nm
theorem va_fi {T B n N j : Nat} {A : RecT} {nar : Int32} {hi : UInt64} (v : VA T B n N A) (st : A.1 22 0 = 1) (hB : B < 1000000) (p : PL hi) : VA T (B + 1) n N (fiS A nar n j hi) := by
  obtain ⟨a1, a2, a3, ⟨f, a6, a7⟩, a8, a9, a10, a11, a12, a13, a14, a15, a16, a17, a18⟩ := v
  obtain ⟨b1, b2, b3⟩ := a18 st
  have sa := sb_all p.sb a15
  have nth : Nm (thS A hi) := add_nm2 b2.1 sa.2.2.2.2.1
  have zth : thS A hi ≠ mz := dadd_nz b2.1 sa.2.2.2.2.1 b2.2
  have c : ∀ k, k ≠ 34 → k ≠ 20 → k ≠ 21 → (fiS A nar n j hi).1 k = A.1 k := fun k h1 h2 h3 => fiS_1 h1 h2 h3
  have d : ∀ k, k ≠ 35 → k ≠ 29 → k ≠ 24 → (fiS A nar n j hi).2 k = A.2 k := fun k h1 h2 h3 => fiS_2 h1 h2 h3
  -- the rows that change
  have e1 : ∀ i, i < 64 → Nm ((fi1 A j hi).2 35 i) := fun i hi' => by
    unfold fi1
    split
    · exact a17 i hi'
    · rw [uD_2, if_pos rfl]
      unfold up1
      split
      · exact nth
      · exact a17 i hi'
  have f35 : ∀ i, i < 64 → Nm ((fiS A nar n j hi).2 35 i) := fun i hi' => by
    unfold fiS
    split
    · exact e1 i hi'
    · rw [fi5_2 (by decide), fi4_2, fi3_2 (by decide) (by decide)]; exact e1 i hi'
  have x1 : ∀ i, i < n → Cv ((fi1 A j hi).2 29 i) := fun i hi' => by rw [fi1_2 (by decide)]; exact a16 i hi'
  have cu : ∀ i, i < n → Cv (cuS (fi2 (fi1 A j hi)) nar hi i) := fun i hi' => by
    have h39 : (fi2 (fi1 A j hi)).2 39 = A.2 39 := by show (fi1 A j hi).2 39 = _; rw [fi1_2 (by decide)]
    have h40 : (fi2 (fi1 A j hi)).2 40 = A.2 40 := by show (fi1 A j hi).2 40 = _; rw [fi1_2 (by decide)]
    exact cv_cuS (by rw [h39]; exact (b3 i hi').1) (by rw [h40]; exact (b3 i hi').2.1)
  have x3 : ∀ i, i < n → Cv ((fi3 (fi2 (fi1 A j hi)) nar hi).2 29 i) := fun i hi' => by
    unfold fi3
    split
    · exact x1 i hi'
    · rw [uD_2, if_neg (by decide), uD_2, if_pos rfl]; exact cu i hi'
  have f29 : ∀ i, i < n → Cv ((fiS A nar n j hi).2 29 i) := fun i hi' => by
    unfold fiS
    split
    · exact x1 i hi'
    · unfold fi5
      split
      · rw [uD_2, if_pos rfl]
        unfold up1
        split
        · exact cv_cn _
        · rw [fi4_2]; exact x3 i hi'
      · rw [fi4_2]; exact x3 i hi'
  have f24 : Nm ((fiS A nar n j hi).2 24 0) ∧ (fiS A nar n j hi).2 24 0 ≠ mz := by
    have g1 : (fi1 A j hi).2 24 = A.2 24 := fi1_2 (by decide)
    have eth : thS (fi2 (fi1 A j hi)) hi = thS A hi := by
      unfold thS
      have h37 : (fi2 (fi1 A j hi)).2 37 = A.2 37 := by show (fi1 A j hi).2 37 = _; rw [fi1_2 (by decide)]
      have h38 : (fi2 (fi1 A j hi)).2 38 = A.2 38 := by show (fi1 A j hi).2 38 = _; rw [fi1_2 (by decide)]
      rw [h37, h38]
    unfold fiS
    split
    · show Nm ((fi1 A j hi).2 24 0) ∧ (fi1 A j hi).2 24 0 ≠ mz
      rw [g1]; exact a10
    · rw [fi5_2 (by decide), fi4_2]
      unfold fi3
      split
      · show Nm ((fi1 A j hi).2 24 0) ∧ (fi1 A j hi).2 24 0 ≠ mz
        rw [g1]; exact a10
      · rw [uD_2, if_pos rfl, eth]; exact ⟨nth, zth⟩
  have f21 : (fiS A nar n j hi).1 21 0 = 0 ∨ (fiS A nar n j hi).1 21 0 = 1 := by
    have g : (fi2 (fi1 A j hi)).1 21 = A.1 21 := by rw [fi2_1 (by decide), fi1_1 (by decide)]
    unfold fiS
    split
    · rw [g]; exact a8
    · rw [fi5_1]
      unfold fi4
      split
      · rw [uI_1, if_pos rfl]; exact Or.inr rfl
      · rw [fi3_1, g]; exact a8
  refine ⟨?_, ?_, ?_, ⟨f + 1, ?_, by omega⟩, f21, ?_, f24, ?_, ?_, ?_, ?_, ?_, f29, f35, ?_⟩
  · rw [c 15 (by decide) (by decide) (by decide)]; exact a1
  · rw [c 16 (by decide) (by decide) (by decide), c 30 (by decide) (by decide) (by decide)]; exact a2
  · rw [c 17 (by decide) (by decide) (by decide), c 22 (by decide) (by decide) (by decide)]; exact a3
  · rw [fiS_20, a6, li1, ni_add]
  · rw [c 22 (by decide) (by decide) (by decide)]; exact a9
  · rw [d 25 (by decide) (by decide) (by decide)]; exact a11
  · rw [d 26 (by decide) (by decide) (by decide)]; exact a12
  · rw [d 27 (by decide) (by decide) (by decide)]; exact a13
  · rw [d 28 (by decide) (by decide) (by decide)]; exact a14
  · rw [d 38 (by decide) (by decide) (by decide)]; exact a15
  · rw [c 22 (by decide) (by decide) (by decide), c 36 (by decide) (by decide) (by decide), d 37 (by decide) (by decide) (by decide), d 39 (by decide) (by decide) (by decide), d 40 (by decide) (by decide) (by decide), d 41 (by decide) (by decide) (by decide), d 42 (by decide) (by decide) (by decide), d 104 (by decide) (by decide) (by decide)]
    intro z
    refine ⟨b1, b2, fun i hi' => ?_⟩
    obtain ⟨g1, g2, g3, g4, g5, g6⟩ := b3 i hi'
    refine ⟨g1, g2, g3, g4, fun k hk => ?_, g6⟩
    rw [d (100 + k) (by omega) (by omega) (by omega)]
    exact g5 k hk
theorem va_evL {T n N ne : Nat} {nar : Int32} : ∀ (d B : Nat) (hv : Nat → UInt64) (A : RecT), VA T B n N A → A.1 22 0 = 1 → B + d < 1000000 → (∀ j, j < ne → PL (hv j) ∨ hv j = c2) → VA T (B + d) n N (evL nar n ne d hv A) := by
  intro d
  induction d with
  | zero => intro B hv A v _ _ _; exact v
  | succ d ih =>
    intro B hv A v st hB hp
    rw [evL]
    cases e : pkS hv ne with
    | none => exact v.mono (Nat.le_refl _) (by omega)
    | some j =>
      obtain ⟨k1, k2⟩ := pkS_some e
      have pj : PL (hv j) := by
        rcases hp j k1 with z | z
        · exact z
        · rw [z] at k2; omega
      have v2 := va_fi (nar := nar) (j := j) v st (by omega) pj
      show VA T (B + (d + 1)) n N (if _ then _ else _)
      split
      · have := ih (B + 1) (up1 hv j c2) (fiS A nar n j (hv j)) v2 (by rw [fiS_1 (by decide) (by decide) (by decide)]; exact st) (by omega) (fun k hk => by
          unfold up1
          split
          · exact Or.inr rfl
          · exact hp k hk)
        exact this.mono (Nat.le_refl _) (by omega)
      · exact v2.mono (Nat.le_refl _) (by omega)
theorem hvS_or (v : UInt64 → UInt64) (way : Int32) : PL (hvS v way) ∨ hvS v way = c2 := by
  unfold hvS
  split
  · exact Or.inl (pl_bsS _ _ _ pl_0 pl_1)
  · split
    · exact Or.inl (pl_bsS _ _ _ pl_0 pl_1)
    · exact Or.inr rfl
theorem va_ev {T B n N : Nat} {A : RecT} {nar : Int32} {V : UInt64 → (Nat → UInt64) → Nat → UInt64} (v : VA T B n N A) (st : A.1 22 0 = 1) (hB : B + 4 < 1000000) : VA T (B + 4) n N (evS V A nar n) := by
  obtain ⟨ne, h1, h2, -⟩ := v.2.1
  have tne : tc (A.1 16 0) = ne := by rw [h1]; exact ni_cl (by omega)
  unfold evS
  rw [tne]
  exact (va_evL ne B _ A v st (by omega) (fun j _ => hvS_or _ _)).mono (Nat.le_refl _) (by omega)
theorem evL_keep {n ne : Nat} {nar : Int32} : ∀ (d : Nat) (hv : Nat → UInt64) (A : RecT), (∀ k, k ≠ 34 → k ≠ 20 → k ≠ 21 → (evL nar n ne d hv A).1 k = A.1 k) ∧ (∀ k, k ≠ 35 → k ≠ 29 → k ≠ 24 → (evL nar n ne d hv A).2 k = A.2 k) := by
  intro d
  induction d with
  | zero => intro hv A; exact ⟨fun _ _ _ _ => rfl, fun _ _ _ _ => rfl⟩
  | succ d ih =>
    intro hv A
    rw [evL]
    cases e : pkS hv ne with
    | none => exact ⟨fun _ _ _ _ => rfl, fun _ _ _ _ => rfl⟩
    | some j =>
      show (∀ k, _ → _ → _ → (if A.1 32 j = 0 then evL nar n ne d (up1 hv j c2) (fiS A nar n j (hv j)) else fiS A nar n j (hv j)).1 k = _) ∧ (∀ k, _ → _ → _ → (if A.1 32 j = 0 then evL nar n ne d (up1 hv j c2) (fiS A nar n j (hv j)) else fiS A nar n j (hv j)).2 k = _)
      split
      · exact ⟨fun k h1 h2 h3 => by rw [(ih _ _).1 k h1 h2 h3, fiS_1 h1 h2 h3], fun k h1 h2 h3 => by rw [(ih _ _).2 k h1 h2 h3, fiS_2 h1 h2 h3]⟩
      · exact ⟨fun k h1 h2 h3 => fiS_1 h1 h2 h3, fun k h1 h2 h3 => fiS_2 h1 h2 h3⟩
/-- what a run's step makes of its record -/
noncomputable def goR (F : FT) (V : UInt64 → (Nat → UInt64) → Nat → UInt64) (nar : Int32) (n : Nat) (A : RecT) (begin' : UInt64) (cut : Int32) (endv : UInt64) : Int32 × RecT :=
  let M := tc (A.1 15 0)
  let r := attS F nar n M (A.2 24 0) (A.2 29) (A.2 26 0) (A.2 27 0) 20 0 begin'
  if r.1 = 0 then (nI r.2.1, evS V (tkS A F nar n M r.2.1 r.2.2.1 r.2.2.2 (decide (cut ≠ 0 ∧ r.2.1 = 0)) endv) nar n) else (r.1, A)
theorem r_goes {h : Hp} {m s l n ns N T B : Nat} {A : RecT} {cut : Int32} {begin' endv : UInt64} (X : SX h m l n ns N) (hs : s < 9) (R : RR h m s n A) (v : VA T B n N A) (hl : A.1 14 0 = nI l) (hT : T < 500000) (hB : B < 500000) (fh : HB begin') (he : cut ≠ 0 → Nm endv ∧ endv ≠ mz) :
    ∃ h', f_X9_goes m (nI s) begin' cut endv h = some ((goR (fR h m l N) (nvR h m l N) (hpI h (m + 2) l) n A begin' cut endv).1, h') ∧ Fs h h' m s ∧ RR h' m s n (goR (fR h m l N) (nvR h m l N) (hpI h (m + 2) l) n A begin' cut endv).2 ∧ VA (T + 1) (B + 4) n N (goR (fR h m l N) (nvR h m l N) (hpI h (m + 2) l) n A begin' cut endv).2 := by
  have H := X.1
  have hn := X.2.1.2.2.2.1
  have hl8 := X.2.1.1
  obtain ⟨⟨M, hM, hM6⟩, ⟨ne, e16, ne4, eq16⟩, a3, ⟨f, f1, f2⟩, a5, a6, a7, a8, a9, a10, a11, a12, a13, a14, a15⟩ := id v
  have tM : tc (A.1 15 0) = M := by rw [hM]; exact ni_cl (by omega)
  unfold f_X9_goes
  have x14 := R.1 14 (by omega) (by omega)
  rw [hl] at x14
  rw [ro_g15 H, Option.bind_some, ro_a15 H hs, Option.bind_some, x14, ro_g0 H, Option.bind_some, ro_a0 H hl8, Option.bind_some, X.2.1.2.2.2.2.1]
  have lp := row_loop (fun fuel i hh => f_X9_goes_32 fuel (some m) (nI s) cut endv (nI l) (nI n) 0 begin' FP.dconst0 0 i hh) (h := h) (dst := m + 45) (n := n) (E := fun i => hpD h (m + 29) (6 * s + i)) (old := hpD h (m + 45)) (res := f_X9_goes_64 fuelN (some m) (nI s) cut endv (nI l) (nI n) 0 begin' FP.dconst0 0 (rwD h (m + 45) (rowU n (fun i => hpD h (m + 29) (6 * s + i)) (hpD h (m + 45))))) (by omega) (by
    intro fuel i hi
    have H' := H.rwD (m + 45) (rowU i (fun i => hpD h (m + 29) (6 * s + i)) (hpD h (m + 45)))
    rw [f_X9_goes_32, if_neg (show ¬ nI n ≤ nI i by rw [ni_le (by omega) (by omega)]; omega), ro_g47 H', Option.bind_some, ro_g30 H', Option.bind_some, li6, ni_mul, ni_add, ro_a30 H' (by omega), Option.bind_some, ro_s47 H' (by omega), Option.bind_some, hpD_rwD_ne (by omega), rwD_stD, li1, ni_add]
    rw [show up1 (rowU i (fun i => hpD h (m + 29) (6 * s + i)) (hpD h (m + 45))) i (hpD h (m + 29) (6 * s + i)) = rowU (i + 1) (fun i => hpD h (m + 29) (6 * s + i)) (hpD h (m + 45)) from rowU_s i (fun i => hpD h (m + 29) (6 * s + i)) (hpD h (m + 45))]) (by
    intro fuel
    rw [f_X9_goes_32, if_pos (show nI n ≤ nI n from (ni_le (by omega) (by omega)).mpr (Nat.le_refl _))])
  rw [rwD_self] at lp
  rw [lp]
  have F1 : Fs h (rwD h (m + 45) (rowU n (fun i => hpD h (m + 29) (6 * s + i)) (hpD h (m + 45)))) m s := fs_wk s _ (by omega)
  have R1 : RR (rwD h (m + 45) (rowU n (fun i => hpD h (m + 29) (6 * s + i)) (hpD h (m + 45)))) m s n A := rr_wk (by omega) R
  have x1 : ∀ i, i < n → hpD (rwD h (m + 45) (rowU n (fun i => hpD h (m + 29) (6 * s + i)) (hpD h (m + 45)))) (m + 45) i = A.2 29 i := fun i hi => by rw [hpD_rwD_self, rowU_lt hi]; exact R.2.2.2.2.2.1 i hi
  generalize rwD h (m + 45) (rowU n (fun i => hpD h (m + 29) (6 * s + i)) (hpD h (m + 45))) = h1 at F1 R1 x1 ⊢
  have G := r_goes_64 (cut := cut) (endv := endv) X hs hM hM6 a7.1 a13 20 0 fuelN begin' FP.dconst0 h1 (by omega) (by unfold fuelN; omega) fh F1 R1 x1
  have S := attS_spec (F := fR h m l N) (nar := hpI h (m + 2) l) (n := n) (M := M) (t := A.2 24 0) (x := A.2 29) (a := A.2 26 0) (b := A.2 27 0) 20 0 begin' fh
  unfold goR
  dsimp only at G S ⊢
  rw [tM]
  generalize attS (fR h m l N) (hpI h (m + 2) l) n M (A.2 24 0) (A.2 29) (A.2 26 0) (A.2 27 0) 20 0 begin' = r at G S ⊢
  by_cases q : r.1 = 0
  · rw [if_pos q]
    obtain ⟨h2, e2, F2, R2⟩ := G.2 q
    rcases S with z | ⟨-, s2, s3, s4, s5, s6, s7, s8⟩
    · rcases z with z | z <;> (rw [q] at z; exact absurd z (by decide))
    · rw [s4] at R2 ⊢
      have v2 := va_tk (no := r.2.1) (nar := hpI h (m + 2) l) (isCut := decide (cut ≠ 0 ∧ r.2.1 = 0)) (endv := endv) v hM hM6 (by omega) (cf_fR X) s2 s3 (fun z => he (of_decide_eq_true z).1)
      have W : VS h m s n l ns N (tkS A (fR h m l N) (hpI h (m + 2) l) n M r.2.1 r.2.2.1 (offS (fR h m l N) (hpI h (m + 2) l) n M (A.2 24 0) (A.2 29) (A.2 26 0) (A.2 27 0) r.2.2.1) (decide (cut ≠ 0 ∧ r.2.1 = 0)) endv) := ⟨X, hs, rfl, hl, s2, a7.1, a13, fun i hi => cv_zS a13 i hi⟩
      obtain ⟨h3, e3, F3, R3⟩ := r_looksAtEvents (ne := ne) (f := f) W F2 R2 e16 ne4 f1 (by omega) eq16
      rw [show (0 : Int32) = nI 0 from rfl] at e2
      rw [e3, bnd_some] at e2
      exact ⟨h3, e2, F3, R3, va_ev v2 rfl (by omega)⟩
  · rw [if_neg q]
    obtain ⟨h2, e2, F2, R2⟩ := G.1 q
    rw [show (0 : Int32) = nI 0 from rfl] at e2
    exact ⟨h2, e2, F2, R2, v.mono (by omega) (by omega)⟩
