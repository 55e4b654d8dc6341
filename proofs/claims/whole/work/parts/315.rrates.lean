/-! ===== the values of all sides ===== -/
def rowU {α : Type} (i : Nat) (f old : Nat → α) : Nat → α := fun j => if j < i then f j else old j
theorem rowU_0 {α : Type} (f old : Nat → α) : rowU 0 f old = old := by funext j; simp [rowU]
theorem rowU_s {α : Type} (i : Nat) (f old : Nat → α) : up1 (rowU i f old) i (f i) = rowU (i + 1) f old := by
  funext j
  unfold up1 rowU
  by_cases h : j = i
  · subst h; simp
  · by_cases h2 : j < i
    · simp [h, h2, show j < i + 1 by omega]
    · simp [h, h2, show ¬ j < i + 1 by omega]
theorem rowU_lt {α : Type} {i j : Nat} {f old : Nat → α} (h : j < i) : rowU i f old j = f j := by simp [rowU, h]
theorem rowU_ge {α : Type} {i j : Nat} {f old : Nat → α} (h : i ≤ j) : rowU i f old j = old j := by simp [rowU, show ¬ j < i by omega]
def wlS (f : Nat → UInt64) : Nat → Int32 → Int32
  | 0, w => w
  | i + 1, w => if wlS f i w = 0 ∧ (ky (f i)).natAbs < 9218868437227405312 then 0 else 1
theorem wlS_01 {f : Nat → UInt64} {w : Int32} (hw : w = 0 ∨ w = 1) : ∀ i, wlS f i w = 0 ∨ wlS f i w = 1 := by
  intro i
  induction i with
  | zero => exact hw
  | succ i ih => unfold wlS; split <;> simp
theorem wlS_0 {f : Nat → UInt64} {w : Int32} {i : Nat} : wlS f i w = 0 ↔ w = 0 ∧ ∀ j, j < i → Fn (f j) := by
  induction i with
  | zero => simp [wlS]
  | succ i ih =>
    unfold wlS
    constructor
    · intro h
      split at h
      · rename_i q
        obtain ⟨q1, q2⟩ := ih.mp q.1
        refine ⟨q1, fun j hj => ?_⟩
        by_cases e : j = i
        · subst e; exact q.2
        · exact q2 j (by omega)
      · exact absurd h (by decide)
    · rintro ⟨h1, h2⟩
      rw [if_pos ⟨ih.mpr ⟨h1, fun j hj => h2 j (by omega)⟩, h2 i (by omega)⟩]
theorem wV_dep {k a b c q : Nat} {cst t : UInt64} {x f g : Nat → UInt64} {sg : Nat → UInt64 → UInt64} (hf : ∀ j, j < q → f j = g j) (h1 : 2 ≤ k ∧ k ≤ 12 → a < q) (h2 : (2 ≤ k ∧ k ≤ 5) ∨ (8 ≤ k ∧ k ≤ 10) → b < q) (h3 : k = 10 → c < q) : wV k a b c cst t x f sg = wV k a b c cst t x g sg := by
  unfold wV
  split
  · rfl
  · rfl
  · rw [hf _ (h1 (by omega)), hf _ (h2 (by omega))]
  · rw [hf _ (h1 (by omega)), hf _ (h2 (by omega))]
  · rw [hf _ (h1 (by omega)), hf _ (h2 (by omega))]
  · rw [hf _ (h1 (by omega)), hf _ (h2 (by omega))]
  · rw [hf _ (h1 (by omega))]
  · rw [hf _ (h1 (by omega))]
  · rw [hf _ (h1 (by omega)), hf _ (h2 (by omega))]
  · rw [hf _ (h1 (by omega)), hf _ (h2 (by omega))]
  · rw [hf _ (h1 (by omega)), hf _ (h2 (by omega)), hf _ (h3 rfl)]
  · rw [hf _ (h1 (by omega))]
  · rw [hf _ (h1 (by omega))]
  · rfl
/-- the nodes' values -/
def nvR (h : Hp) (m l N : Nat) (t : UInt64) (x : Nat → UInt64) : Nat → UInt64 := nvS (wR h m l t x) N (fun _ => 0)
theorem nvR_any {h : Hp} {m l n ns N : Nat} {t : UInt64} {x : Nat → UInt64} (L : LwOK h m l n ns N) (hsg : SgOK h m ns) (f0 : Nat → UInt64) : ∀ j, j < N → nvS (wR h m l t x) N f0 j = nvR h m l N t x j := by
  intro j hj
  refine nvS_any (N := N) (fun q a b hq hab => ?_) N (Nat.le_refl _) j hj
  obtain ⟨hl, hN, hn1, hn6, -, -, hnd⟩ := L
  obtain ⟨-, -, g1, g2, g3, -⟩ := ndok_tc (hnd q hq).1 (by omega) (by omega) (by have := hsg.1; omega)
  exact wV_dep hab g1 g2 g3
/-- every side is a node -/
def SdOK (h : Hp) (m l n N : Nat) : Prop := ∀ i, i < n → ∃ s, hpI h (m + 4) (6 * l + i) = nI s ∧ s < N
/-- f(t, x): the values of all sides -/
def fR (h : Hp) (m l N : Nat) (t : UInt64) (x : Nat → UInt64) (i : Nat) : UInt64 := nvR h m l N t x (tc (hpI h (m + 4) (6 * l + i)))
theorem r_rates_loop {h : Hp} {m l n ns N out : Nat} {f : Nat → UInt64} (g : Nat → UInt64) (H : RO h m) (L : LwOK h m l n ns N) (hsd : SdOK h m l n N) (hout : hpK h out = some (10, 6)) (ho : out ≠ m + 44) (hw : hpI h m 60 = 0 ∨ hpI h m 60 = 1)
    (hg : ∀ i, i < n → g (tc (hpI h (m + 4) (6 * l + i))) = f i) :
    ∀ (d i fuel : Nat), i + d = n → d < fuel → f_X9_rates_11 fuel (some m) (nI l) (some out) (nI i) (stI (rwD (rwD h (m + 44) g) out (rowU i f (hpD h out))) m 60 (wlS f i (hpI h m 60))) = some ((), stI (rwD (rwD h (m + 44) g) out (rowU n f (hpD h out))) m 60 (wlS f n (hpI h m 60))) := by
  obtain ⟨hl, hN, hn1, hn6, e1, e3, hnd⟩ := id L
  intro d
  induction d with
  | zero =>
    intro i fuel hi hf
    obtain ⟨fuel, rfl⟩ : ∃ j, fuel = j + 1 := ⟨fuel - 1, by omega⟩
    have : i = n := by omega
    subst this
    have H' : RO (stI (rwD (rwD h (m + 44) g) out (rowU i f (hpD h out))) m 60 (wlS f i (hpI h m 60))) m := H
    have e1' : hpI (stI (rwD (rwD h (m + 44) g) out (rowU i f (hpD h out))) m 60 (wlS f i (hpI h m 60))) (m + 1) l = nI i := by rw [hpI_stI, if_neg (by omega)]; exact e1
    rw [f_X9_rates_11, ro_g0 H', Option.bind_some, ro_a0 H' hl, Option.bind_some, e1', if_pos ((ni_le (by omega) (by omega)).mpr (Nat.le_refl _))]
  | succ d ih =>
    intro i fuel hi hf
    obtain ⟨fuel, rfl⟩ : ∃ j, fuel = j + 1 := ⟨fuel - 1, by omega⟩
    have H' : RO (stI (rwD (rwD h (m + 44) g) out (rowU i f (hpD h out))) m 60 (wlS f i (hpI h m 60))) m := H
    have e1' : hpI (stI (rwD (rwD h (m + 44) g) out (rowU i f (hpD h out))) m 60 (wlS f i (hpI h m 60))) (m + 1) l = nI n := by rw [hpI_stI, if_neg (by omega)]; exact e1
    obtain ⟨s, es, ls⟩ := hsd i (by omega)
    have es' : hpI (stI (rwD (rwD h (m + 44) g) out (rowU i f (hpD h out))) m 60 (wlS f i (hpI h m 60))) (m + 4) (6 * l + i) = nI s := by rw [hpI_stI, if_neg (by omega)]; exact es
    have eg : hpD (stI (rwD (rwD h (m + 44) g) out (rowU i f (hpD h out))) m 60 (wlS f i (hpI h m 60))) (m + 44) s = f i := by
      rw [hpD_stI, hpD_rwD_ne (Ne.symm ho), hpD_rwD_self]
      have := hg i (by omega)
      rw [es, show tc (nI s) = s from ni_cl (by omega)] at this
      exact this
    have hst : ∀ v, astD (stI (rwD (rwD h (m + 44) g) out (rowU i f (hpD h out))) m 60 (wlS f i (hpI h m 60))) (some out) (nI i) v = some (stD (stI (rwD (rwD h (m + 44) g) out (rowU i f (hpD h out))) m 60 (wlS f i (hpI h m 60))) out i v) := fun v => by
      rw [astD_ok (show hpK (stI (rwD (rwD h (m + 44) g) out (rowU i f (hpD h out))) m 60 (wlS f i (hpI h m 60))) out = some (10, 6) from hout) (ni_in (by omega) (by decide)), ni_cl (by omega)]
    rw [f_X9_rates_11, ro_g0 H', Option.bind_some, ro_a0 H' hl, Option.bind_some, e1', if_neg (by rw [ni_le (by omega) (by omega)]; omega), ro_g46 H', Option.bind_some, ro_g3 H', Option.bind_some, li6, ni_mul, ni_add, ro_a3 H' (by omega), Option.bind_some, es', ro_a46 H' (by omega), Option.bind_some, eg, hst, Option.bind_some]
    have ex : stD (stI (rwD (rwD h (m + 44) g) out (rowU i f (hpD h out))) m 60 (wlS f i (hpI h m 60))) out i (f i) = stI (rwD (rwD h (m + 44) g) out (rowU (i + 1) f (hpD h out))) m 60 (wlS f i (hpI h m 60)) := by
      have : stD (rwD (rwD h (m + 44) g) out (rowU i f (hpD h out))) out i (f i) = rwD (rwD h (m + 44) g) out (rowU (i + 1) f (hpD h out)) := by rw [rwD_stD, rowU_s]
      rw [← this]
      rfl
    rw [ex]
    have H2 : RO (stI (rwD (rwD h (m + 44) g) out (rowU (i + 1) f (hpD h out))) m 60 (wlS f i (hpI h m 60))) m := H
    have ew : hpI (stI (rwD (rwD h (m + 44) g) out (rowU (i + 1) f (hpD h out))) m 60 (wlS f i (hpI h m 60))) m 60 = wlS f i (hpI h m 60) := by rw [hpI_stI, if_pos rfl, if_pos rfl]
    have pz : ∀ w : Int32, (w = 0 ∨ w = 1) → putZ (stI (rwD (rwD h (m + 44) g) out (rowU (i + 1) f (hpD h out))) m 60 (wlS f i (hpI h m 60))) (some m) 9 60 w = some (stI (rwD (rwD h (m + 44) g) out (rowU (i + 1) f (hpD h out))) m 60 w) := fun w hw => by
      rw [ro_pz H2 hw]
      congr 1
      refine hp_ext rfl rfl ?_ rfl rfl
      funext b j
      simp only [hpI_stI]
      by_cases hb : b = m
      · by_cases hj : j = 60 <;> simp [hb, hj]
      · simp [hb]
    have ad : aldD (stI (rwD (rwD h (m + 44) g) out (rowU (i + 1) f (hpD h out))) m 60 (wlS f i (hpI h m 60))) (some out) (nI i) = some (f i) := by
      rw [aldD_ok (show hpK (stI (rwD (rwD h (m + 44) g) out (rowU (i + 1) f (hpD h out))) m 60 (wlS f i (hpI h m 60))) out = some (10, 6) from hout) (ni_in (by omega) (by decide)), ni_cl (by omega), hpD_stI, hpD_rwD_self, rowU_lt (by omega)]
    rw [ro_gi H2, Option.bind_some, ew]
    have IH := ih (i + 1) fuel (by omega) (by omega)
    rcases wlS_01 (f := f) hw i with z | z
    · by_cases fi : Fn (f i)
      · have e2 : wlS f (i + 1) (hpI h m 60) = 0 := by rw [wlS, if_pos ⟨z, fi⟩]
        rw [e2] at IH
        have pz0 := pz 0 (Or.inl rfl)
        rw [z] at pz0 ad ⊢
        rw [if_neg (by simp), ad, Option.bind_some, r_isFin1 fi, bnd_some, if_pos (by decide)]
        unfold f_X9_rates_68
        rw [pz0, Option.bind_some, li1, ni_add]
        exact IH
      · have e2 : wlS f (i + 1) (hpI h m 60) = 1 := by rw [wlS, if_neg (fun q => fi q.2)]
        rw [e2] at IH
        have pz1 := pz 1 (Or.inr rfl)
        rw [z] at pz1 ad ⊢
        rw [if_neg (by simp), ad, Option.bind_some, r_isFin0 fi, bnd_some, if_neg (by simp)]
        unfold f_X9_rates_63 f_X9_rates_68
        rw [pz1, Option.bind_some, li1, ni_add]
        exact IH
    · have e2 : wlS f (i + 1) (hpI h m 60) = 1 := by rw [wlS, if_neg (fun q => by rw [z] at q; exact absurd q.1 (by decide))]
      rw [e2] at IH
      have pz1 := pz 1 (Or.inr rfl)
      rw [z] at pz1 ⊢
      rw [if_pos (by decide)]
      unfold f_X9_rates_63 f_X9_rates_68
      rw [pz1, Option.bind_some, li1, ni_add]
      exact IH
theorem r_rates {h : Hp} {m l n ns N st out : Nat} {t : UInt64} (H : RO h m) (L : LwOK h m l n ns N) (hsg : SgOK h m ns) (hsv : SvOK h m) (hsd : SdOK h m l n N) (hst : hpK h st = some (10, 6)) (hst2 : st ≠ m + 44) (hout : hpK h out = some (10, 6)) (ho : out ≠ m + 44) (ht : Cv t) (hx : ∀ j, j < n → Cv (hpD h st j)) (hw : hpI h m 60 = 0 ∨ hpI h m 60 = 1) :
    ∃ g, f_X9_rates m (nI l) t (some st) (some out) h = some ((), stI (rwD (rwD h (m + 44) g) out (rowU n (fR h m l N t (hpD h st)) (hpD h out))) m 60 (wlS (fR h m l N t (hpD h st)) n (hpI h m 60))) := by
  refine ⟨nvS (wR h m l t (hpD h st)) N (hpD h (m + 44)), ?_⟩
  unfold f_X9_rates
  rw [ro_ck H, Option.bind_some, r_all H L hsg hsv hst hst2 ht hx, bnd_some]
  have IH := r_rates_loop (h := h) (f := fR h m l N t (hpD h st)) (nvS (wR h m l t (hpD h st)) N (hpD h (m + 44))) H L hsd hout ho hw (fun i hi => by
    obtain ⟨s, es, ls⟩ := hsd i hi
    have : tc (hpI h (m + 4) (6 * l + i)) < N := by rw [es, show tc (nI s) = s from ni_cl (by have := L.2.1; omega)]; exact ls
    exact nvR_any L hsg _ _ this) n 0 fuelN (by omega) (by have := L.2.2.2.1; unfold fuelN; omega)
  rw [li0, ← IH]
  congr 1
  rw [rowU_0, wlS]
  refine hp_ext rfl rfl ?_ ?_ rfl
  · funext b j
    rw [hpI_stI]
    by_cases hb : b = m
    · by_cases hj : j = 60
      · subst hb; subst hj; simp [hpI_rwD]
      · simp [hj, hpI_rwD]
    · simp [hb, hpI_rwD]
  · funext b
    rw [hpD_stI]
    by_cases hb : b = out
    · subst hb; rw [hpD_rwD_self, hpD_rwD_ne ho]
    · rw [hpD_rwD_ne hb]
