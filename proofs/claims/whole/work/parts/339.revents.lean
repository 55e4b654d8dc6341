/-! ===== the events of a step, one after the other ===== -/
def pkS (hv : Nat → UInt64) : Nat → Option Nat
  | 0 => none
  | i + 1 => match pkS hv i with
    | none => if ky (hv i) < ky c2 then some i else none
    | some k => if ky (hv i) < ky (hv k) then some i else some k
def ctS (hv : Nat → UInt64) : Nat → Nat
  | 0 => 0
  | i + 1 => ctS hv i + (if ky (hv i) < ky c2 then 1 else 0)
theorem pkS_some {hv : Nat → UInt64} : ∀ {i k : Nat}, pkS hv i = some k → k < i ∧ ky (hv k) < ky c2 := by
  intro i
  induction i with
  | zero => intro k h; exact absurd h (by simp [pkS])
  | succ i ih =>
    intro k h
    rw [pkS] at h
    split at h
    · split at h
      · rename_i w; cases h; exact ⟨by omega, w⟩
      · cases h
    · rename_i k' e
      obtain ⟨a, b⟩ := ih e
      split at h
      · rename_i w; cases h; exact ⟨by omega, by omega⟩
      · cases h; exact ⟨by omega, b⟩
theorem pkS_none {hv : Nat → UInt64} : ∀ {i : Nat}, ctS hv i = 0 → pkS hv i = none := by
  intro i
  induction i with
  | zero => intro _; rfl
  | succ i ih =>
    intro h
    rw [ctS] at h
    rw [pkS, ih (by omega)]
    show (if _ then _ else _) = _
    split
    · rename_i w; rw [if_pos w] at h; omega
    · rfl
theorem ctS_le (hv : Nat → UInt64) (i : Nat) : ctS hv i ≤ i := by
  induction i with
  | zero => exact Nat.le_refl _
  | succ i ih => rw [ctS]; split <;> omega
theorem ctS_up {hv : Nat → UInt64} {j : Nat} : ∀ {i : Nat}, (i ≤ j → ctS (up1 hv j c2) i = ctS hv i) ∧ (j < i → ky (hv j) < ky c2 → ctS (up1 hv j c2) i + 1 = ctS hv i) := by
  intro i
  induction i with
  | zero => exact ⟨fun _ => rfl, fun h => by omega⟩
  | succ i ih =>
    refine ⟨fun h => ?_, fun h w => ?_⟩
    · rw [ctS, ctS, ih.1 (by omega), up1_ne (by omega)]
    · rw [ctS, ctS]
      by_cases e : j = i
      · subst e
        rw [ih.1 (Nat.le_refl _), up1_self, if_neg (by omega), if_pos w]
      · have := ih.2 (by omega) w
        rw [up1_ne (by omega)]
        omega
def evL (nar : Int32) (n ne : Nat) : Nat → (Nat → UInt64) → RecT → RecT
  | 0, _, A => A
  | d + 1, hv, A => match pkS hv ne with
    | none => A
    | some j => if A.1 32 j = 0 then evL nar n ne d (up1 hv j c2) (fiS A nar n j (hv j)) else fiS A nar n j (hv j)
noncomputable def hvA (V : UInt64 → (Nat → UInt64) → Nat → UInt64) (A : RecT) (nar : Int32) (j : Nat) : UInt64 := hvS (vaS V A nar (tc (A.1 30 j))) (A.1 31 j)
noncomputable def evS (V : UInt64 → (Nat → UInt64) → Nat → UInt64) (A : RecT) (nar : Int32) (n : Nat) : RecT := evL nar n (tc (A.1 16 0)) (tc (A.1 16 0)) (hvA V A nar) A
def pkR (K : Option Nat → Int32 → Int32 → Hp → Option (Unit × Hp)) (m s : Nat) (h : Hp) : Option Nat → Option (Unit × Hp)
  | none => some ((), h)
  | some k => (getR h (some m) 9 59).bind fun x5 =>
        (astZ h x5 (nI k) 0).bind fun h6 =>
        (ab_ck h6 (some m) (9, 0)).bind fun a10 =>
        bnd (f_X9_fires a10 (nI s) (nI k) h6) fun _ h8 =>
        (getR h8 (some m) 9 33).bind fun x12 =>
        (aldI h8 x12 11 ((4 * nI s) + nI k)).bind fun x13 =>
        if ¬ x13 = 0 then f_X9_looksAtEvents_122 K (some m) (nI s) 0 h8 else f_X9_looksAtEvents_122 K (some m) (nI s) 1 h8
def nxV : Option Nat → Int32
  | none => -1
  | some k => nI k
/-- the reference picks the next one -/
theorem r_pick {h : Hp} {m s n ne : Nat} {A : RecT} {hv : Nat → UInt64} (K : Option Nat → Int32 → Int32 → Hp → Option (Unit × Hp)) (H : RO h m) (hs : s < 9) (R : RR h m s n A) (hne : A.1 16 0 = nI ne) (hn4 : ne ≤ 4) (hC : ∀ j, j < ne → CmS h m j (hv j)) :
    f_X9_looksAtEvents_35 K fuelN (some m) (nI s) (-1) 0 h = pkR K m s h (pkS hv ne) := by
  have x16 := R.1 16 (by omega) (by omega)
  rw [hne] at x16
  have nx : ∀ k : Nat, k < 100 → ¬ nI k < 0 := fun k hk => by rw [li0, ni_lt (by omega) (by omega)]; omega
  have key : ∀ (d i fuel : Nat) (v3 : Int32), i + d = ne → d < fuel → v3 = nxV (pkS hv i) → f_X9_looksAtEvents_35 K fuel (some m) (nI s) v3 (nI i) h = pkR K m s h (pkS hv ne) := by
    intro d
    induction d with
    | zero =>
      intro i fuel v3 hi hf hv3
      obtain ⟨fuel, rfl⟩ : ∃ j, fuel = j + 1 := ⟨fuel - 1, by omega⟩
      have : i = ne := by omega
      subst this
      rw [f_X9_looksAtEvents_35, ro_g17 H, Option.bind_some, ro_a17 H hs, Option.bind_some, x16, if_pos (show nI i ≤ nI i from (ni_le (by omega) (by omega)).mpr (Nat.le_refl _))]
      cases hp : pkS hv i with
      | none =>
        rw [hp] at hv3
        have hv3 : v3 = -1 := hv3
        rw [hv3, if_neg (by decide)]; rfl
      | some k =>
        rw [hp] at hv3
        have hv3 : v3 = nI k := hv3
        have := (pkS_some hp).1
        rw [hv3, if_pos (Int32.not_lt.mp (nx k (by omega)))]; rfl
    | succ d ih =>
      intro i fuel v3 hi hf hv3
      obtain ⟨fuel, rfl⟩ : ∃ j, fuel = j + 1 := ⟨fuel - 1, by omega⟩
      rw [f_X9_looksAtEvents_35, ro_g17 H, Option.bind_some, ro_a17 H hs, Option.bind_some, x16, if_neg (show ¬ nI ne ≤ nI i by rw [ni_le (by omega) (by omega)]; omega), ro_g59 H, Option.bind_some, ro_a59 H (by omega), Option.bind_some]
      have e1 : nI i + 1 = nI (i + 1) := by rw [li1, ni_add]
      rcases hC i (by omega) with ⟨c1, c2', c3⟩ | ⟨c1, c2'⟩
      · have lt : ky (hv i) < ky c2 := by have := c3.2.1; rw [ky_1] at this; rw [ky_c2]; omega
        rw [c1, if_neg (by decide)]
        cases hp : pkS hv i with
        | none =>
          rw [hp] at hv3
          have hv3 : v3 = -1 := hv3
          rw [hv3, if_pos (by decide)]
          unfold f_X9_looksAtEvents_77 f_X9_looksAtEvents_80
          rw [e1]
          refine ih (i + 1) fuel (nI i) (by omega) (by omega) ?_
          rw [pkS, hp]; show _ = nxV (if _ then _ else _)
          rw [if_pos lt]; rfl
        | some k =>
          rw [hp] at hv3
          have hv3 : v3 = nI k := hv3
          obtain ⟨pk1, pk2⟩ := pkS_some hp
          rw [hv3, if_neg (nx k (by omega)), ro_g58 H, Option.bind_some, ro_a58 H (by omega), Option.bind_some, Option.bind_some, ro_a58 H (by omega), Option.bind_some, c2']
          have ck : hpD h (m + 56) k = hv k ∧ PL (hv k) := by
            rcases hC k (by omega) with ⟨-, b1, b2⟩ | ⟨-, b1⟩
            · exact ⟨b1, b2⟩
            · rw [b1] at pk2; omega
          rw [ck.1]
          have fi := c3.sb
          have fk := ck.2.sb
          have ni' : Nm (hv i) := by have q : (ky (hv i)).natAbs < 4611686018427387904 := fi; show (ky (hv i)).natAbs ≤ _; omega
          have nk : Nm (hv k) := by have q : (ky (hv k)).natAbs < 4611686018427387904 := fk; show (ky (hv k)).natAbs ≤ _; omega
          by_cases q : 0 ≤ cg (hv i) (hv k)
          · rw [if_pos q]
            unfold f_X9_looksAtEvents_80
            rw [e1]
            refine ih (i + 1) fuel (nI k) (by omega) (by omega) ?_
            rw [pkS, hp]; show _ = nxV (if _ then _ else _)
            have : ¬ ky (hv i) < ky (hv k) := by
              rw [cg_ge] at q
              rcases q with q | q
              · exact absurd ⟨ni', nk⟩ q
              · omega
            rw [if_neg this]; rfl
          · rw [if_neg q]
            unfold f_X9_looksAtEvents_77 f_X9_looksAtEvents_80
            rw [e1]
            refine ih (i + 1) fuel (nI i) (by omega) (by omega) ?_
            rw [pkS, hp]; show _ = nxV (if _ then _ else _)
            have : ky (hv i) < ky (hv k) := by
              rw [cg_ge] at q
              exact Int.not_le.mp (fun z => q (Or.inr z))
            rw [if_pos this]; rfl
      · rw [c1, if_pos rfl]
        unfold f_X9_looksAtEvents_80
        rw [e1]
        refine ih (i + 1) fuel v3 (by omega) (by omega) ?_
        rw [pkS]
        cases hp : pkS hv i with
        | none =>
          rw [hp] at hv3
          show _ = nxV (if _ then _ else _)
          rw [c2', if_neg (by omega)]; exact hv3
        | some k =>
          rw [hp] at hv3
          have := (pkS_some hp).2
          show _ = nxV (if _ then _ else _)
          rw [c2', if_neg (by omega)]; exact hv3
  exact key ne 0 fuelN (-1) (by omega) (by unfold fuelN; omega) rfl
theorem r_events_26 {h0 : Hp} {m s n l ns N ne : Nat} (hn4 : ne ≤ 4) :
    ∀ (d fuel f : Nat) (A : RecT) (hv : Nat → UInt64) (h : Hp), d < fuel → ctS hv ne ≤ d → VS h0 m s n l ns N A → Fs h0 h m s → RR h m s n A → A.1 16 0 = nI ne → A.1 20 0 = nI f → f + d < 1000000 → (∀ j, j < ne → CmS h m j (hv j)) →
      ∃ h', f_X9_looksAtEvents_26 fuel (some m) (nI s) 1 h = some ((), h') ∧ Fs h0 h' m s ∧ RR h' m s n (evL (hpI h0 (m + 2) l) n ne d hv A) := by
  intro d
  induction d with
  | zero =>
    intro fuel f A hv h hf hc W F R hne hf2 hfd hC
    obtain ⟨fuel, rfl⟩ : ∃ j, fuel = j + 1 := ⟨fuel - 1, by omega⟩
    have H := le_RO F.2.1 W.1.1
    rw [f_X9_looksAtEvents_26, if_neg (by decide), r_pick _ H W.2.1 R hne hn4 hC, pkS_none (by omega)]
    exact ⟨h, rfl, F, R⟩
  | succ d ih =>
    intro fuel f A hv h hf hc W F R hne hf2 hfd hC
    obtain ⟨fuel, rfl⟩ : ∃ j, fuel = j + 1 := ⟨fuel - 1, by omega⟩
    have H := le_RO F.2.1 W.1.1
    have hs := W.2.1
    rw [f_X9_looksAtEvents_26, if_neg (by decide), r_pick _ H hs R hne hn4 hC, evL]
    cases hp : pkS hv ne with
    | none => exact ⟨h, rfl, F, R⟩
    | some k =>
      obtain ⟨pk1, pk2⟩ := pkS_some hp
      have ck : hpD h (m + 56) k = hv k ∧ PL (hv k) := by
        rcases hC k pk1 with ⟨-, b1, b2⟩ | ⟨-, b1⟩
        · exact ⟨b1, b2⟩
        · rw [b1] at pk2; omega
      have s0 : astZ h (some (m + 57)) (nI k) 0 = some (stI h (m + 57) k 0) := by rw [ro_s59 H (show k < 4 by omega), nar0]
      have H1 : RO (stI h (m + 57) k 0) m := H
      have F1 : Fs h0 (stI h (m + 57) k 0) m s := F.trans (fs_co s k 0)
      obtain ⟨h2, e2, F2, R2, i2, d2⟩ := r_fires (hi := hv k) W F1 (rr_co R) (show k < 4 by omega) ck.1 ck.2.sb hf2 (by omega)
      have H2 := le_RO F2.2.1 W.1.1
      have x32 := R2.2.2.2.2.2.2.1 32 (by omega) (by omega) k (by omega)
      rw [fiS_1 (by decide) (by decide) (by decide)] at x32
      simp only [pkR, ro_g59 H, Option.bind_some, s0, ro_ck H1, e2, bnd_some, ro_g33 H2, li4, ni_mul, ni_add, ro_a33 H2 (show 4 * s + k < 36 by omega), x32]
      unfold f_X9_looksAtEvents_122
      by_cases q : A.1 32 k = 0
      · rw [if_neg (fun z => z q), if_pos q]
        have W2 : VS h0 m s n l ns N (fiS A (hpI h0 (m + 2) l) n k (hv k)) := vs_dep W (fiS_1 (by decide) (by decide) (by decide)) (fiS_1 (by decide) (by decide) (by decide)) (fun q hq => fiS_2 (by omega) (by omega) (by omega))
        refine ih fuel (f + 1) _ (up1 hv k c2) h2 (by omega) ?_ W2 F2 R2 ?_ ?_ (by omega) ?_
        · have := (ctS_up (hv := hv) (j := k) (i := ne)).2 pk1 pk2
          omega
        · rw [fiS_1 (by decide) (by decide) (by decide)]; exact hne
        · rw [fiS_20, hf2, li1, ni_add]
        · intro j hj
          unfold CmS
          rw [i2, d2]
          by_cases e : j = k
          · subst e
            rw [hpI_stI_self, up1_self]
            exact Or.inr ⟨rfl, rfl⟩
          · rw [hpI_stI_ne (Or.inr e), up1_ne e]
            exact hC j hj
      · rw [if_pos q, if_neg q]
        obtain ⟨fuel, rfl⟩ : ∃ j, fuel = j + 1 := ⟨fuel - 1, by omega⟩
        rw [f_X9_looksAtEvents_26, if_pos rfl]
        exact ⟨h2, rfl, F2, R2⟩
theorem r_looksAtEvents {h0 h : Hp} {m s n l ns N ne f : Nat} {A : RecT} (W : VS h0 m s n l ns N A) (F : Fs h0 h m s) (R : RR h m s n A) (hne : A.1 16 0 = nI ne) (hn4 : ne ≤ 4) (hf : A.1 20 0 = nI f) (hf2 : f < 900000) (hq : ∀ j, j < ne → ∃ q, A.1 30 j = nI q ∧ q < N) :
    ∃ h', f_X9_looksAtEvents m (nI s) h = some ((), h') ∧ Fs h0 h' m s ∧ RR h' m s n (evS (nvR h0 m l N) A (hpI h0 (m + 2) l) n) := by
  unfold f_X9_looksAtEvents evS
  have tne : tc (A.1 16 0) = ne := by rw [hne]; exact ni_cl (by omega)
  rw [tne]
  have hN := W.1.2.1.2.1
  obtain ⟨h1, e1, F1, R1, C1⟩ := loop_rel (fun fuel i hh => f_X9_looksAtEvents_2 fuel (some m) (nI s) i hh) (fun i h1 => Fs h0 h1 m s ∧ RR h1 m s n A ∧ ∀ j, j < i → CmS h1 m j (hvA (nvR h0 m l N) A (hpI h0 (m + 2) l) j)) (n := ne) (res := fun h => f_X9_looksAtEvents_26 fuelN (some m) (nI s) 1 h) (by omega) (by
      rintro fuel i h1 hi ⟨p1, p2, p3⟩
      have H1 := le_RO p1.2.1 W.1.1
      obtain ⟨q, q1, q2⟩ := hq i hi
      obtain ⟨h2, e2, F2, R2, o2, C2⟩ := r_looksAt W p1 p2 (show i < 4 by omega) q1 q2
      have x16 := p2.1 16 (by omega) (by omega)
      refine ⟨h2, ?_, F2, R2, fun j hj => ?_⟩
      · rw [f_X9_looksAtEvents_2, ro_g17 H1, Option.bind_some, ro_a17 H1 W.2.1, Option.bind_some, x16, hne, if_neg (show ¬ nI ne ≤ nI i by rw [ni_le (by omega) (by omega)]; omega), ro_ck H1, Option.bind_some, e2, bnd_some, li1, ni_add]
      · by_cases e : j = i
        · subst e
          unfold hvA
          rw [q1, show tc (nI q) = q from ni_cl (by omega)]
          exact C2
        · have := p3 j (by omega)
          unfold CmS at this ⊢
          rw [(o2 j e).1, (o2 j e).2]
          exact this) (by
      rintro fuel h1 ⟨p1, p2, -⟩
      have H1 := le_RO p1.2.1 W.1.1
      have x16 := p2.1 16 (by omega) (by omega)
      rw [f_X9_looksAtEvents_2, ro_g17 H1, Option.bind_some, ro_a17 H1 W.2.1, Option.bind_some, x16, hne, if_pos (show nI ne ≤ nI ne from (ni_le (by omega) (by omega)).mpr (Nat.le_refl _))]) h ⟨F, R, fun j hj => by omega⟩
  rw [e1]
  exact r_events_26 hn4 ne fuelN f A _ h1 (by unfold fuelN; omega) (ctS_le _ _) W F1 R1 hne hf (by omega) C1
