/-! ===== the steps, as the document writes them ===== -/
abbrev FT : Type := UInt64 → (Nat → UInt64) → Nat → UInt64
abbrev c2 : UInt64 := 4611686018427387904
abbrev c3 : UInt64 := 4613937818241073152
abbrev c4 : UInt64 := 4616189618054758400
abbrev c6 : UInt64 := 4618441417868443648
abbrev c9 : UInt64 := 4621256167635550208
abbrev c72 : UInt64 := 4634766966517661696
def yA (F : FT) (nar : Int32) (t h : UInt64) (x : Nat → UInt64) : Nat → UInt64 := mvV nar x (FP.ddiv h c2) (F t x)
/-- k2 of MIDDLE, THIRD, FOURTH and PAIR -/
def kA (F : FT) (nar : Int32) (t h : UInt64) (x : Nat → UInt64) : Nat → UInt64 := F (FP.dadd t (FP.ddiv h c2)) (yA F nar t h x)
def zM (F : FT) (nar : Int32) (t h : UInt64) (x : Nat → UInt64) : Nat → UInt64 := mvV nar x h (kA F nar t h x)
def yT (F : FT) (nar : Int32) (t h : UInt64) (x : Nat → UInt64) : Nat → UInt64 := mvV nar x h (s3a (F t x) (kA F nar t h x))
def k3T (F : FT) (nar : Int32) (t h : UInt64) (x : Nat → UInt64) : Nat → UInt64 := F (FP.dadd t h) (yT F nar t h x)
def zT (F : FT) (nar : Int32) (t h : UInt64) (x : Nat → UInt64) : Nat → UInt64 := mvV nar x (FP.ddiv h c6) (s3b (F t x) (kA F nar t h x) (k3T F nar t h x))
def yF (F : FT) (nar : Int32) (t h : UInt64) (x : Nat → UInt64) : Nat → UInt64 := mvV nar x (FP.ddiv h c2) (kA F nar t h x)
def k3F (F : FT) (nar : Int32) (t h : UInt64) (x : Nat → UInt64) : Nat → UInt64 := F (FP.dadd t (FP.ddiv h c2)) (yF F nar t h x)
def y3F (F : FT) (nar : Int32) (t h : UInt64) (x : Nat → UInt64) : Nat → UInt64 := mvV nar x h (k3F F nar t h x)
def k4F (F : FT) (nar : Int32) (t h : UInt64) (x : Nat → UInt64) : Nat → UInt64 := F (FP.dadd t h) (y3F F nar t h x)
def zF (F : FT) (nar : Int32) (t h : UInt64) (x : Nat → UInt64) : Nat → UInt64 := mvV nar x (FP.ddiv h c6) (s4 (F t x) (kA F nar t h x) (k3F F nar t h x) (k4F F nar t h x))
abbrev dP (h : UInt64) : UInt64 := FP.ddiv (FP.dmul c3 h) c4
def yP (F : FT) (nar : Int32) (t h : UInt64) (x : Nat → UInt64) : Nat → UInt64 := mvV nar x (dP h) (kA F nar t h x)
def k3P (F : FT) (nar : Int32) (t h : UInt64) (x : Nat → UInt64) : Nat → UInt64 := F (FP.dadd t (dP h)) (yP F nar t h x)
def zP (F : FT) (nar : Int32) (t h : UInt64) (x : Nat → UInt64) : Nat → UInt64 := mvV nar x (FP.ddiv h c9) (spz (F t x) (kA F nar t h x) (k3P F nar t h x))
def k4P (F : FT) (nar : Int32) (t h : UInt64) (x : Nat → UInt64) : Nat → UInt64 := F (FP.dadd t h) (zP F nar t h x)
def eP (F : FT) (nar : Int32) (t h : UInt64) (x : Nat → UInt64) (i : Nat) : UInt64 := cn (FP.dmul (FP.ddiv h c72) (spe (F t x) (kA F nar t h x) (k3P F nar t h x) (k4P F nar t h x) i))
theorem ky_c2 : ky c2 = 4611686018427387904 := by decide +kernel
theorem ky_c3 : ky c3 = 4613937818241073152 := by decide +kernel
theorem ky_c4 : ky c4 = 4616189618054758400 := by decide +kernel
theorem ky_c6 : ky c6 = 4618441417868443648 := by decide +kernel
theorem ky_c9 : ky c9 = 4621256167635550208 := by decide +kernel
theorem ky_c72 : ky c72 = 4634766966517661696 := by decide +kernel
theorem nm_c {c : UInt64} {k : Int} (h : ky c = k) (hk : k.natAbs ≤ 9218868437227405312) : Nm c := by unfold Nm; rw [h]; exact hk
theorem div_nm {h c : UInt64} {k : Int} (hh : Fn h) (hc : ky c = k) (hk : 0 < k ∧ k < 9218868437227405312) : Nm (FP.ddiv h c) := ddiv_nm.mpr ⟨hh.nm, nm_c hc (by omega), fun q => by have := fnk hh; omega, fun q => by omega⟩
theorem add_nm {t g : UInt64} (ht : Fn t) (hg : Nm g) : Nm (FP.dadd t g) := dadd_nm.mpr ⟨ht.nm, hg, fun q => by have := fnk ht; omega⟩
theorem mul_nm {a b : UInt64} (ha : Fn a) (hb : Fn b) : Nm (FP.dmul a b) := dmul_nm.mpr ⟨ha.nm, hb.nm, fun q => by have := fnk ha; omega, fun q => by have := fnk hb; omega⟩
theorem div_nm' {a c : UInt64} {k : Int} (ha : Nm a) (hc : ky c = k) (hk : 0 < k ∧ k < 9218868437227405312) : Nm (FP.ddiv a c) := ddiv_nm.mpr ⟨ha, nm_c hc (by omega), fun q => by omega, fun q => by omega⟩
/-- a step's length: at most 1024 or so -/
def HB (h : UInt64) : Prop := (ky h).natAbs < 4656722014701092864
theorem HB.fn {h : UInt64} (a : HB h) : Fn h := by have q : (ky h).natAbs < 4656722014701092864 := a; show (ky h).natAbs < _; omega
theorem ddiv_hb {a b : UInt64} {L : Nat} (h : HB a) (hb : L * 2 ^ 52 ≤ (ky b).natAbs) (hb2 : (ky b).natAbs < 2047 * 2 ^ 52) (hL : 1 ≤ L) : (ky (FP.ddiv a b)).natAbs < (1034 + (1074 - 52 - 1) - L + 3) * 2 ^ 52 := by
  have q : (ky a).natAbs < 4656722014701092864 := h
  rw [ky_mod] at q hb hb2 ⊢
  exact FP.Core.ddiv_mag (K := 1034) (L := L) (by omega) hb hb2 (by omega) hL
theorem hb_div {h c : UInt64} {k : Int} (a : HB h) (hc : ky c = k) (hk : 4611686018427387904 ≤ k ∧ k < 9218868437227405312) : HB (FP.ddiv h c) := by
  have := ddiv_hb (L := 1024) a (b := c) (by omega) (by omega) (by omega)
  show (ky (FP.ddiv h c)).natAbs < 4656722014701092864
  omega
theorem fn_half {h : UInt64} (a : HB h) : Fn (FP.ddiv h c2) := (hb_div a ky_c2 (by omega)).fn
theorem fn_dP {h : UInt64} (a : HB h) : Fn (dP h) := by
  have q : (ky h).natAbs < 4656722014701092864 := a
  have k3 : (ky c3).natAbs < 1025 * 2 ^ 52 := by rw [ky_c3]; decide
  have k4 : (ky c4).natAbs = 1025 * 2 ^ 52 := by rw [ky_c4]; decide
  rw [ky_mod] at q k3 k4
  have h1 := FP.Core.dmul_mag (a := c3) (b := h) (Ka := 1025) (Kb := 1034) k3 (by omega) (by omega) (by omega)
  have h2 := FP.Core.ddiv_mag (a := FP.dmul c3 h) (b := c4) (K := 1037) (L := 1025) h1 (by omega) (by omega) (by omega) (by omega)
  show (ky (dP h)).natAbs < _
  rw [ky_mod]
  have h3 : (dP h).toNat % 2 ^ 63 < (1037 + (1074 - 52 - 1) - 1025 + 3) * 2 ^ 52 := h2
  omega
theorem add_nm2 {t g : UInt64} (ht : Nm t) (hg : Fn g) : Nm (FP.dadd t g) := dadd_nm.mpr ⟨ht, hg.nm, fun q => by have := fnk hg; omega⟩
theorem wlS_congr {f g : Nat → UInt64} {n : Nat} (h : ∀ i, i < n → f i = g i) (w : Int32) : wlS f n w = wlS g n w := by
  induction n with
  | zero => rfl
  | succ n ih => rw [wlS, wlS, ih (fun i hi => h i (by omega)), h n (by omega)]
theorem mvV_congr {nar : Int32} {x y : Nat → UInt64} {w : UInt64} {k k' : Nat → UInt64} {i : Nat} (hx : x i = y i) (hk : k i = k' i) : mvV nar x w k i = mvV nar y w k' i := by unfold mvV; rw [hx, hk]
/-- rates behind other work of the step: all told of the step's beginning h0 -/
theorem st_rates {h0 h : Hp} {m l n ns N st out : Nat} {t : UInt64} {y : Nat → UInt64} (X : SX h0 m l n ns N) (S : Scr h0 h m) (hst : m + 45 ≤ st ∧ st ≤ m + 54) (hout : m + 46 ≤ out ∧ out ≤ m + 53) (ht : Nm t) (hy : ∀ j, j < n → hpD h st j = y j) (hc : ∀ j, j < n → Cv (y j)) (hw : hpI h m 60 = 0 ∨ hpI h m 60 = 1) :
    ∃ h', f_X9_rates m (nI l) t (some st) (some out) h = some ((), h') ∧ Scr h0 h' m ∧ (∀ i, i < n → hpD h' out i = fR h0 m l N t y i) ∧ (∀ a, a ≠ out → a ≠ m + 44 → hpD h' a = hpD h a) ∧ hpI h' m 60 = wlS (fR h0 m l N t y) n (hpI h m 60) ∧ (hpI h' m 60 = 0 ∨ hpI h' m 60 = 1) ∧ hpI h' m 61 = hpI h m 61 := by
  have X1 := scr_SX S X
  obtain ⟨h', e, S2, k, o, w, u⟩ := r_rates' (t := t) X1 hst hout (Or.inl ht) (fun j hj => by rw [hy j hj]; exact hc j hj) hw
  have ef : ∀ i, i < n → fR h m l N t (hpD h st) i = fR h0 m l N t y i := fun i hi => by rw [scr_fR S]; exact fR_dep X hy i hi
  refine ⟨h', e, S.trans S2, fun i hi => by rw [k i hi, ef i hi], o, by rw [w, wlS_congr ef], by rw [w]; exact wlS_01 hw n, u⟩
/-- a row is written by a loop of the step -/
theorem st_row {h0 h : Hp} {m l n dst : Nat} {w : UInt64} {k k' : Nat → UInt64} (S : Scr h0 h m) (hd : m + 46 ≤ dst ∧ dst ≤ m + 53) (hk : ∀ i, i < n → k i = k' i) (old : Nat → UInt64) :
    Scr h0 (rwD h dst (rowU n (mvV (hpI h (m + 2) l) (hpD h (m + 45)) w k) old)) m ∧ ∀ i, i < n → hpD (rwD h dst (rowU n (mvV (hpI h (m + 2) l) (hpD h (m + 45)) w k) old)) dst i = mvV (hpI h0 (m + 2) l) (hpD h0 (m + 45)) w k' i := by
  refine ⟨S.rwD dst _ (by omega), fun i hi => ?_⟩
  rw [hpD_rwD_self, rowU_lt hi, S.2.2.2.1 (m + 2) (by omega)]
  exact mvV_congr (by rw [S.2.2.2.2.2 (m + 45) (by omega)]) (hk i hi)
theorem r_byMiddle {h : Hp} {m l n ns N : Nat} {t hh : UInt64} (X : SX h m l n ns N) (ft : Nm t) (fh : HB hh) (hk1 : ∀ i, i < n → hpD h (m + 50) i = fR h m l N t (hpD h (m + 45)) i) (hw : hpI h m 60 = 0 ∨ hpI h m 60 = 1) :
    ∃ h', f_X9_byMiddle m (nI l) (nI n) t hh h = some ((), h') ∧ Scr h h' m ∧ hpD h' (m + 50) = hpD h (m + 50) ∧ (∀ i, i < n → hpD h' (m + 51) i = kA (fR h m l N) (hpI h (m + 2) l) t hh (hpD h (m + 45)) i) ∧ (∀ i, i < n → hpD h' (m + 47) i = zM (fR h m l N) (hpI h (m + 2) l) t hh (hpD h (m + 45)) i) ∧ hpI h' m 60 = wlS (kA (fR h m l N) (hpI h (m + 2) l) t hh (hpD h (m + 45))) n (hpI h m 60) ∧ hpI h' m 61 = hpI h m 61 := by
  have hl := X.2.1.1
  have hn := X.2.1.2.2.2.1
  have ng := div_nm fh.fn ky_c2 (by omega)
  unfold f_X9_byMiddle
  rw [fop_ok ng, Option.bind_some, q_byMiddle_11 X.1 hl hn]
  dsimp only
  obtain ⟨S1, y1⟩ := st_row (h0 := h) (l := l) (dst := m + 46) (w := FP.ddiv hh c2) (Scr.refl h m) (by omega) hk1 (hpD h (m + 46))
  generalize e1 : rwD h (m + 46) _ = h1 at S1 y1 ⊢
  have d1 : ∀ a, a ≠ m + 46 → hpD h1 a = hpD h a := fun a ha => by rw [← e1, hpD_rwD_ne ha]
  have w1 : hpI h1 m = hpI h m := by rw [← e1]; rfl
  have H1 := scr_RO S1 X.1
  obtain ⟨h2, e2, S2, k2, o2, v2, b2, u2⟩ := st_rates (t := FP.dadd t (FP.ddiv hh c2)) (st := m + 46) (out := m + 51) X S1 (by omega) (by omega) (add_nm2 ft (fn_half fh)) y1 (fun j _ => cv_mvV _ _ _ _ _) (by rw [w1]; exact hw)
  rw [fop_ok (add_nm2 ft (fn_half fh)), Option.bind_some, ro_g48 H1, Option.bind_some, ro_g53 H1, Option.bind_some, ro_ck H1, Option.bind_some, e2, bnd_some, q_byMiddle_79 (scr_RO S2 X.1) hl hn]
  dsimp only
  obtain ⟨S3, y3⟩ := st_row (h0 := h) (l := l) (dst := m + 47) (w := hh) S2 (by omega) k2 (hpD h2 (m + 47))
  refine ⟨_, rfl, S3, ?_, fun i hi => ?_, y3, ?_, ?_⟩
  · rw [hpD_rwD_ne (by omega), o2 _ (by omega) (by omega), d1 _ (by omega)]
  · rw [hpD_rwD_ne (by omega), k2 i hi]; rfl
  · rw [hpI_rwD, v2, w1]; rfl
  · rw [hpI_rwD, u2, w1]
