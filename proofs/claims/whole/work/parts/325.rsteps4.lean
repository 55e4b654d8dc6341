/-! ===== BACKWARD and LEAP ===== -/
def gpS (a b : Nat → UInt64) : Nat → Nat
  | 0 => 0
  | i + 1 => gpS a b i + (if cl (a i) (b i) = 0 then 0 else 1)
theorem gpS_le (a b : Nat → UInt64) (i : Nat) : gpS a b i ≤ i := by
  induction i with
  | zero => exact Nat.le_refl _
  | succ i ih => rw [gpS]; split <;> omega
theorem gpS_congr {a b a' b' : Nat → UInt64} {n : Nat} (h1 : ∀ i, i < n → a i = a' i) (h2 : ∀ i, i < n → b i = b' i) : gpS a b n = gpS a' b' n := by
  induction n with
  | zero => rfl
  | succ n ih => rw [gpS, gpS, ih (fun i hi => h1 i (by omega)) (fun i hi => h2 i (by omega)), h1 n (by omega), h2 n (by omega)]
def zB (F : FT) (nar : Int32) (t h : UInt64) (x : Nat → UInt64) : Nat → Nat → UInt64
  | 0 => mvV nar x h (F t x)
  | j + 1 => mvV nar x h (F (FP.dadd t h) (zB F nar t h x j))
def wB (F : FT) (nar : Int32) (t h : UInt64) (x : Nat → UInt64) (n : Nat) (w : Int32) : Nat → Int32
  | 0 => w
  | j + 1 => wlS (F (FP.dadd t h) (zB F nar t h x j)) n (wB F nar t h x n w j)
theorem cv_zB (F : FT) (nar : Int32) (t h : UInt64) (x : Nat → UInt64) (j i : Nat) : Cv (zB F nar t h x j i) := by
  cases j with
  | zero => exact cv_mvV _ _ _ _ _
  | succ j => exact cv_mvV _ _ _ _ _
theorem q_backward_86 {h : Hp} {m l n : Nat} {v3 v5 : UInt64} {v7 : Int32} (k : Option Nat → Int32 → Int32 → UInt64 → UInt64 → Int32 → Hp → Option (Unit × Hp)) (H : RO h m) (hl : l < 8) (hn : n ≤ 6) (hc : hpI h m 61 = 0) :
    f_X9_backward_86 k fuelN (some m) (nI l) (nI n) v3 v5 v7 0 h = f_X9_backward_165 k fuelN (some m) (nI l) (nI n) v3 v5 v7 0 (stI (rwD h (m + 48) (rowU n (mvV (hpI h (m + 2) l) (hpD h (m + 45)) v5 (hpD h (m + 51))) (hpD h (m + 48)))) m 61 (nI (gpS (mvV (hpI h (m + 2) l) (hpD h (m + 45)) v5 (hpD h (m + 51))) (hpD h (m + 47)) n))) := by
  generalize hE : mvV (hpI h (m + 2) l) (hpD h (m + 45)) v5 (hpD h (m + 51)) = E
  generalize hG : gpS E (hpD h (m + 47)) = G
  have := loop_from (fun fuel i hh => f_X9_backward_86 k fuel (some m) (nI l) (nI n) v3 v5 v7 i hh) (fun i => stI (rwD h (m + 48) (rowU i E (hpD h (m + 48)))) m 61 (nI (G i))) (n := n) (a := 0) (res := f_X9_backward_165 k fuelN (some m) (nI l) (nI n) v3 v5 v7 0 (stI (rwD h (m + 48) (rowU n E (hpD h (m + 48)))) m 61 (nI (G n)))) (by omega) (by omega) ?_ ?_
  · have e0 : stI (rwD h (m + 48) (rowU 0 E (hpD h (m + 48)))) m 61 (nI (G 0)) = h := by
      rw [rowU_0, rwD_self, ← hG, gpS, ← li0, ← hc, stI_self]
    rw [e0] at this
    exact this
  · intro fuel i _ hi
    have H' : RO (stI (rwD h (m + 48) (rowU i E (hpD h (m + 48)))) m 61 (nI (G i))) m := H
    have H2 : RO (stI (rwD h (m + 48) (rowU (i + 1) E (hpD h (m + 48)))) m 61 (nI (G i))) m := H
    have ev : E i = mvV (hpI h (m + 2) l) (hpD h (m + 45)) v5 (hpD h (m + 51)) i := by rw [← hE]
    have hr : hpI (stI (rwD h (m + 48) (rowU i E (hpD h (m + 48)))) m 61 (nI (G i))) (m + 2) l = hpI h (m + 2) l := by rw [hpI_stI, if_neg (by omega)]; rfl
    simp only [f_X9_backward_86, if_neg (show ¬ nI n ≤ nI i by rw [ni_le (by omega) (by omega)]; omega), ro_g50 H', ro_g47 H', ro_g53 H', Option.bind_some, ro_a47 H' (show i < 6 by omega), ro_a53 H' (show i < 6 by omega), r_times, r_plus, bnd_some, ro_ck H', r_put H' hl, hr, ro_s50 H' (show i < 6 by omega), hpD_stI, hpD_rwD_ne (show m + 45 ≠ m + 48 by omega), hpD_rwD_ne (show m + 51 ≠ m + 48 by omega)]
    have ex : stD (stI (rwD h (m + 48) (rowU i E (hpD h (m + 48)))) m 61 (nI (G i))) (m + 48) i (E i) = stI (rwD h (m + 48) (rowU (i + 1) E (hpD h (m + 48)))) m 61 (nI (G i)) := by rw [stD_stI, rwD_stD, rowU_s]
    rw [show pV (narB (hpI h (m + 2) l) (nI i)) (cn (FP.dadd (hpD h (m + 45) i) (cn (FP.dmul v5 (hpD h (m + 51) i))))) = E i from ev.symm, ex]
    simp only [ro_g50 H2, ro_g49 H2, Option.bind_some, ro_a50 H2 (show i < 6 by omega), ro_a49 H2 (show i < 6 by omega), hpD_stI, hpD_rwD_self, hpD_rwD_ne (show m + 47 ≠ m + 48 by omega), rowU_lt (show i < i + 1 by omega), ro_gi H2, ro_pi H2, hpI_stI_self, stI_stI, f_X9_backward_156, li1, ni_add]
    have eg : G (i + 1) = G i + (if cl (E i) (hpD h (m + 47) i) = 0 then 0 else 1) := by rw [← hG]; rfl
    by_cases q : cl (E i) (hpD h (m + 47) i) = 0
    · rw [if_pos q, eg, if_pos q]; rfl
    · rw [if_neg q, eg, if_neg q]
  · intro fuel
    simp only [f_X9_backward_86, if_pos (show nI n ≤ nI n from (ni_le (by omega) (by omega)).mpr (Nat.le_refl _))]
theorem q_backward_165 {h : Hp} {m l n : Nat} {v3 v5 : UInt64} {v7 : Int32} (k : Option Nat → Int32 → Int32 → UInt64 → UInt64 → Int32 → Hp → Option (Unit × Hp)) (H : RO h m) (hn : n ≤ 6) :
    f_X9_backward_165 k fuelN (some m) (nI l) (nI n) v3 v5 v7 0 h = k (some m) (nI l) (nI n) v3 v5 (v7 + 1) (rwD h (m + 47) (rowU n (hpD h (m + 48)) (hpD h (m + 47)))) := by
  have := row_loop (fun fuel i hh => f_X9_backward_165 k fuel (some m) (nI l) (nI n) v3 v5 v7 i hh) (h := h) (dst := m + 47) (n := n) (E := hpD h (m + 48)) (old := hpD h (m + 47)) (res := k (some m) (nI l) (nI n) v3 v5 (v7 + 1) (rwD h (m + 47) (rowU n (hpD h (m + 48)) (hpD h (m + 47))))) (by omega) ?_ ?_
  · rw [rwD_self] at this
    exact this
  · intro fuel i hi
    have H' := H.rwD (m + 47) (rowU i (hpD h (m + 48)) (hpD h (m + 47)))
    simp only [f_X9_backward_165, if_neg (show ¬ nI n ≤ nI i by rw [ni_le (by omega) (by omega)]; omega), ro_g49 H', ro_g50 H', Option.bind_some, ro_a50 H' (show i < 6 by omega), ro_s49 H' (show i < 6 by omega), rwD_stD, li1, ni_add, hpD_rwD_ne (show m + 48 ≠ m + 47 by omega), rowU_s]
  · intro fuel
    simp only [f_X9_backward_165, if_pos (show nI n ≤ nI n from (ni_le (by omega) (by omega)).mpr (Nat.le_refl _))]
theorem q_backward_54 {h0 : Hp} {m l n ns N : Nat} {t hh : UInt64} (X : SX h0 m l n ns N) (ft : Nm t) (fh : HB hh) (w : Int32) :
    ∀ (d j fuel : Nat) (h : Hp), j + d = 6 → d < fuel → Scr h0 h m → hpD h (m + 50) = hpD h0 (m + 50) → (∀ i, i < n → hpD h (m + 47) i = zB (fR h0 m l N) (hpI h0 (m + 2) l) t hh (hpD h0 (m + 45)) j i) → (hpI h m 60 = 0 ∨ hpI h m 60 = 1) → hpI h m 60 = wB (fR h0 m l N) (hpI h0 (m + 2) l) t hh (hpD h0 (m + 45)) n w j →
      (j = 6 → (∀ i, i < n → hpD h (m + 51) i = fR h0 m l N (FP.dadd t hh) (zB (fR h0 m l N) (hpI h0 (m + 2) l) t hh (hpD h0 (m + 45)) 5) i) ∧ hpI h m 61 = nI (gpS (zB (fR h0 m l N) (hpI h0 (m + 2) l) t hh (hpD h0 (m + 45)) 6) (zB (fR h0 m l N) (hpI h0 (m + 2) l) t hh (hpD h0 (m + 45)) 5) n)) →
      ∃ h', f_X9_backward_54 fuel (some m) (nI l) (nI n) t hh (nI j) h = some ((), h') ∧ Scr h0 h' m ∧ hpD h' (m + 50) = hpD h0 (m + 50) ∧ (∀ i, i < n → hpD h' (m + 51) i = fR h0 m l N (FP.dadd t hh) (zB (fR h0 m l N) (hpI h0 (m + 2) l) t hh (hpD h0 (m + 45)) 5) i) ∧ (∀ i, i < n → hpD h' (m + 47) i = zB (fR h0 m l N) (hpI h0 (m + 2) l) t hh (hpD h0 (m + 45)) 6 i) ∧ hpI h' m 60 = wB (fR h0 m l N) (hpI h0 (m + 2) l) t hh (hpD h0 (m + 45)) n w 6 ∧ hpI h' m 61 = nI (gpS (zB (fR h0 m l N) (hpI h0 (m + 2) l) t hh (hpD h0 (m + 45)) 6) (zB (fR h0 m l N) (hpI h0 (m + 2) l) t hh (hpD h0 (m + 45)) 5) n) := by
  have hl := X.2.1.1
  have hn := X.2.1.2.2.2.1
  generalize hF : fR h0 m l N = F
  generalize hx : hpD h0 (m + 45) = x
  generalize hnr : hpI h0 (m + 2) l = nar
  intro d
  induction d with
  | zero =>
    intro j fuel h hj hf S k1 hz hb hw he
    obtain ⟨fuel, rfl⟩ : ∃ j, fuel = j + 1 := ⟨fuel - 1, by omega⟩
    have : j = 6 := by omega
    subst this
    obtain ⟨a1, a2⟩ := he rfl
    refine ⟨h, ?_, S, k1, a1, hz, hw, a2⟩
    rw [f_X9_backward_54, if_pos (by rw [li6, ni_le (by omega) (by omega)]; omega)]
  | succ d ih =>
    intro j fuel h hj hf S k1 hz hb hw he
    obtain ⟨fuel, rfl⟩ : ∃ j, fuel = j + 1 := ⟨fuel - 1, by omega⟩
    have H := scr_RO S X.1
    rw [f_X9_backward_54, if_neg (by rw [li6, ni_le (by omega) (by omega)]; omega), fop_ok (add_nm2 ft fh.fn), Option.bind_some, ro_g49 H, Option.bind_some, ro_g53 H, Option.bind_some, ro_ck H, Option.bind_some]
    obtain ⟨h1, e1, S1, q1, o1, v1, b1, u1⟩ := st_rates (t := FP.dadd t hh) (st := m + 47) (out := m + 51) X S (by omega) (by omega) (add_nm2 ft fh.fn) hz (fun i _ => cv_zB _ _ _ _ _ _ _) hb
    have H1 := scr_RO S1 X.1
    rw [e1, bnd_some, ro_pi H1, Option.bind_some]
    have H2 : RO (stI h1 m 61 0) m := H1
    rw [q_backward_86 _ H2 hl hn (hpI_stI_self _ _ _ _)]
    have e2 : hpI (stI h1 m 61 0) (m + 2) l = nar := by rw [hpI_stI, if_neg (by omega), S1.2.2.2.1 (m + 2) (by omega)]; exact hnr
    rw [e2, hpD_stI, S1.2.2.2.2.2 (m + 45) (by omega), hx, rwD_stI, stI_stI]
    have ez : ∀ i, i < n → mvV nar x hh (hpD h1 (m + 51)) i = zB F nar t hh x (j + 1) i := fun i hi => by
      rw [zB]; exact mvV_congr rfl (by rw [q1 i hi, hF])
    have eo : ∀ i, i < n → hpD h1 (m + 47) i = zB F nar t hh x j i := fun i hi => by rw [o1 _ (by omega) (by omega)]; exact hz i hi
    rw [gpS_congr ez eo]
    have H3 : RO (stI (rwD h1 (m + 48) (rowU n (mvV nar x hh (hpD h1 (m + 51))) (hpD h1 (m + 48)))) m 61 (nI (gpS (zB F nar t hh x (j + 1)) (zB F nar t hh x j) n))) m := H1
    rw [q_backward_165 _ H3 hn, li1, ni_add]
    have S3 : Scr h0 (rwD (stI (rwD h1 (m + 48) (rowU n (mvV nar x hh (hpD h1 (m + 51))) (hpD h1 (m + 48)))) m 61 (nI (gpS (zB F nar t hh x (j + 1)) (zB F nar t hh x j) n))) (m + 47) (rowU n (hpD (stI (rwD h1 (m + 48) (rowU n (mvV nar x hh (hpD h1 (m + 51))) (hpD h1 (m + 48)))) m 61 (nI (gpS (zB F nar t hh x (j + 1)) (zB F nar t hh x j) n))) (m + 48)) (hpD (stI (rwD h1 (m + 48) (rowU n (mvV nar x hh (hpD h1 (m + 51))) (hpD h1 (m + 48)))) m 61 (nI (gpS (zB F nar t hh x (j + 1)) (zB F nar t hh x j) n))) (m + 47)))) m := ((S1.rwD (m + 48) _ (by omega)).stI 61 _ (Or.inr rfl)).rwD (m + 47) _ (by omega)
    refine ih (j + 1) fuel _ (by omega) (by omega) S3 ?_ ?_ ?_ ?_ ?_
    · rw [hpD_rwD_ne (by omega), hpD_stI, hpD_rwD_ne (by omega), o1 _ (by omega) (by omega), k1]
    · intro i hi
      rw [hpD_rwD_self, rowU_lt hi, hpD_stI, hpD_rwD_self, rowU_lt hi]
      exact ez i hi
    · rw [hpI_rwD, hpI_stI, if_pos rfl, if_neg (by decide)]; exact b1
    · rw [hpI_rwD, hpI_stI, if_pos rfl, if_neg (by decide), hpI_rwD, v1, hw]; rw [wB, hF]
    · intro h6
      have : j = 5 := by omega
      subst this
      refine ⟨fun i hi => ?_, ?_⟩
      · rw [hpD_rwD_ne (by omega), hpD_stI, hpD_rwD_ne (by omega), q1 i hi, hF]
      · rw [hpI_rwD, hpI_stI_self]
theorem r_backward {h : Hp} {m l n ns N : Nat} {t hh : UInt64} (X : SX h m l n ns N) (ft : Nm t) (fh : HB hh) (hk1 : ∀ i, i < n → hpD h (m + 50) i = fR h m l N t (hpD h (m + 45)) i) (hw : hpI h m 60 = 0 ∨ hpI h m 60 = 1) :
    ∃ h', f_X9_backward m (nI l) (nI n) t hh h = some ((), h') ∧ Scr h h' m ∧ hpD h' (m + 50) = hpD h (m + 50) ∧ (∀ i, i < n → hpD h' (m + 51) i = fR h m l N (FP.dadd t hh) (zB (fR h m l N) (hpI h (m + 2) l) t hh (hpD h (m + 45)) 5) i) ∧ (∀ i, i < n → hpD h' (m + 47) i = zB (fR h m l N) (hpI h (m + 2) l) t hh (hpD h (m + 45)) 6 i) ∧ hpI h' m 60 = wB (fR h m l N) (hpI h (m + 2) l) t hh (hpD h (m + 45)) n (hpI h m 60) 6 ∧ hpI h' m 61 = nI (gpS (zB (fR h m l N) (hpI h (m + 2) l) t hh (hpD h (m + 45)) 6) (zB (fR h m l N) (hpI h (m + 2) l) t hh (hpD h (m + 45)) 5) n) := by
  have hl := X.2.1.1
  have hn := X.2.1.2.2.2.1
  unfold f_X9_backward
  rw [q_backward_3 X.1 hl hn]
  dsimp only
  obtain ⟨S1, y1⟩ := st_row (h0 := h) (l := l) (dst := m + 47) (w := hh) (Scr.refl h m) (by omega) hk1 (hpD h (m + 47))
  generalize e1 : rwD h (m + 47) _ = h1 at S1 y1 ⊢
  have w1 : hpI h1 m = hpI h m := by rw [← e1]; rfl
  have d1 : hpD h1 (m + 50) = hpD h (m + 50) := by rw [← e1, hpD_rwD_ne (by omega)]
  exact q_backward_54 X ft fh (hpI h m 60) 6 0 fuelN h1 (by omega) (by unfold fuelN; omega) S1 d1 y1 (by rw [w1]; exact hw) (by rw [w1]; rfl) (fun q => by omega)
