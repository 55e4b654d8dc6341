/-! ===== LEAP ===== -/
def yL (F : FT) (nar : Int32) (n : Nat) (t h : UInt64) (x : Nat → UInt64) (i : Nat) : UInt64 := if i < n / 2 then x i else mvV nar x (FP.ddiv h c2) (F t x) i
def k2L (F : FT) (nar : Int32) (n : Nat) (t h : UInt64) (x : Nat → UInt64) : Nat → UInt64 := F (FP.dadd t (FP.ddiv h c2)) (yL F nar n t h x)
def z1L (F : FT) (nar : Int32) (n : Nat) (t h : UInt64) (x : Nat → UInt64) (i : Nat) : UInt64 := if i < n / 2 then mvV nar x h (k2L F nar n t h x) i else yL F nar n t h x i
def k3L (F : FT) (nar : Int32) (n : Nat) (t h : UInt64) (x : Nat → UInt64) : Nat → UInt64 := F (FP.dadd t h) (z1L F nar n t h x)
def zL (F : FT) (nar : Int32) (n : Nat) (t h : UInt64) (x : Nat → UInt64) (i : Nat) : UInt64 := if i < n / 2 then z1L F nar n t h x i else mvV nar (yL F nar n t h x) (FP.ddiv h c2) (k3L F nar n t h x) i
theorem ni_half {n : Nat} (hn : n ≤ 6) : nI n / 2 = nI (n / 2) := by
  rcases (by omega : n = 0 ∨ n = 1 ∨ n = 2 ∨ n = 3 ∨ n = 4 ∨ n = 5 ∨ n = 6) with rfl | rfl | rfl | rfl | rfl | rfl | rfl <;> decide
theorem q_leap_16 {h : Hp} {m l n : Nat} {v3 v5 v7 : UInt64} (H : RO h m) (hl : l < 8) (hn : n ≤ 6) : f_X9_leap_16 fuelN (some m) (nI l) (nI n) v3 v5 v7 (nI (n / 2)) 0 h = (fun h => (
      (fop (FP.dadd v3 v7)).bind fun x2 =>
      (getR h (some m) 9 48).bind fun x3 =>
      (getR h (some m) 9 53).bind fun x4 =>
      (ab_ck h (some m) (9, 0)).bind fun a8 =>
      bnd (f_X9_rates a8 (nI l) x2 x3 x4 h) fun _ h6 =>
      f_X9_leap_101 fuelN (some m) (nI l) (nI n) v3 v5 v7 (nI (n / 2)) 0 h6)) (rwD h (m + 46) (rowU n (fun i => if i < n / 2 then hpD h (m + 45) i else mvV (hpI h (m + 2) l) (hpD h (m + 45)) v7 (hpD h (m + 50)) i) (hpD h (m + 46)))) := by
  generalize hE : (fun i => if i < n / 2 then hpD h (m + 45) i else mvV (hpI h (m + 2) l) (hpD h (m + 45)) v7 (hpD h (m + 50)) i) = E
  have ev : ∀ i, E i = if i < n / 2 then hpD h (m + 45) i else mvV (hpI h (m + 2) l) (hpD h (m + 45)) v7 (hpD h (m + 50)) i := fun i => by rw [← hE]
  have := row_loop (fun fuel i hh => f_X9_leap_16 fuel (some m) (nI l) (nI n) v3 v5 v7 (nI (n / 2)) i hh) (h := h) (dst := m + 46) (n := n) (E := E) (old := hpD h (m + 46)) (res := (fun h => (
      (fop (FP.dadd v3 v7)).bind fun x2 =>
      (getR h (some m) 9 48).bind fun x3 =>
      (getR h (some m) 9 53).bind fun x4 =>
      (ab_ck h (some m) (9, 0)).bind fun a8 =>
      bnd (f_X9_rates a8 (nI l) x2 x3 x4 h) fun _ h6 =>
      f_X9_leap_101 fuelN (some m) (nI l) (nI n) v3 v5 v7 (nI (n / 2)) 0 h6)) (rwD h (m + 46) (rowU n E (hpD h (m + 46))))) (by omega) ?_ ?_
  · rw [rwD_self] at this
    exact this
  · intro fuel i hi
    have H' := H.rwD (m + 46) (rowU i E (hpD h (m + 46)))
    by_cases q : i < n / 2
    · simp only [f_X9_leap_16, f_X9_leap_74, if_neg (show ¬ nI n ≤ nI i by rw [ni_le (by omega) (by omega)]; omega), if_neg (show ¬ nI (n / 2) ≤ nI i by rw [ni_le (by omega) (by omega)]; omega), ro_g47 H', ro_g48 H', ro_g52 H', Option.bind_some, ro_a47 H' (show i < 6 by omega), ro_s48 H' (show i < 6 by omega), rwD_stD, li1, ni_add, hpD_rwD_ne (show m + 45 ≠ m + 46 by omega)]
      rw [← rowU_s, ev, if_pos q]
    · simp only [f_X9_leap_16, f_X9_leap_74, if_neg (show ¬ nI n ≤ nI i by rw [ni_le (by omega) (by omega)]; omega), if_pos (show nI (n / 2) ≤ nI i by rw [ni_le (by omega) (by omega)]; omega), ro_g47 H', ro_g48 H', ro_g52 H', Option.bind_some, ro_a47 H' (show i < 6 by omega), ro_a52 H' (show i < 6 by omega), r_times, r_plus, bnd_some, ro_ck H', r_put H' hl, ro_s48 H' (show i < 6 by omega), rwD_stD, li1, ni_add, hpI_rwD, hpD_rwD_ne (show m + 45 ≠ m + 46 by omega), hpD_rwD_ne (show m + 50 ≠ m + 46 by omega)]
      rw [← rowU_s, ev, if_neg q]
      rfl
  · intro fuel
    simp only [f_X9_leap_16, if_pos (show nI n ≤ nI n from (ni_le (by omega) (by omega)).mpr (Nat.le_refl _))]
theorem q_leap_101 {h : Hp} {m l n : Nat} {v3 v5 v7 : UInt64} (H : RO h m) (hl : l < 8) (hn : n ≤ 6) : f_X9_leap_101 fuelN (some m) (nI l) (nI n) v3 v5 v7 (nI (n / 2)) 0 h = (fun h => (
      (fop (FP.dadd v3 v5)).bind fun x2 =>
      (getR h (some m) 9 49).bind fun x3 =>
      (getR h (some m) 9 54).bind fun x4 =>
      (ab_ck h (some m) (9, 0)).bind fun a8 =>
      bnd (f_X9_rates a8 (nI l) x2 x3 x4 h) fun _ h6 =>
      f_X9_leap_187 fuelN (some m) (nI l) (nI n) v7 (nI (n / 2)) h6)) (rwD h (m + 47) (rowU n (fun i => if i < n / 2 then mvV (hpI h (m + 2) l) (hpD h (m + 45)) v5 (hpD h (m + 51)) i else hpD h (m + 46) i) (hpD h (m + 47)))) := by
  generalize hE : (fun i => if i < n / 2 then mvV (hpI h (m + 2) l) (hpD h (m + 45)) v5 (hpD h (m + 51)) i else hpD h (m + 46) i) = E
  have ev : ∀ i, E i = if i < n / 2 then mvV (hpI h (m + 2) l) (hpD h (m + 45)) v5 (hpD h (m + 51)) i else hpD h (m + 46) i := fun i => by rw [← hE]
  have := row_loop (fun fuel i hh => f_X9_leap_101 fuel (some m) (nI l) (nI n) v3 v5 v7 (nI (n / 2)) i hh) (h := h) (dst := m + 47) (n := n) (E := E) (old := hpD h (m + 47)) (res := (fun h => (
      (fop (FP.dadd v3 v5)).bind fun x2 =>
      (getR h (some m) 9 49).bind fun x3 =>
      (getR h (some m) 9 54).bind fun x4 =>
      (ab_ck h (some m) (9, 0)).bind fun a8 =>
      bnd (f_X9_rates a8 (nI l) x2 x3 x4 h) fun _ h6 =>
      f_X9_leap_187 fuelN (some m) (nI l) (nI n) v7 (nI (n / 2)) h6)) (rwD h (m + 47) (rowU n E (hpD h (m + 47))))) (by omega) ?_ ?_
  · rw [rwD_self] at this
    exact this
  · intro fuel i hi
    have H' := H.rwD (m + 47) (rowU i E (hpD h (m + 47)))
    by_cases q : i < n / 2
    · simp only [f_X9_leap_101, f_X9_leap_159, if_neg (show ¬ nI n ≤ nI i by rw [ni_le (by omega) (by omega)]; omega), if_neg (show ¬ nI (n / 2) ≤ nI i by rw [ni_le (by omega) (by omega)]; omega), ro_g47 H', ro_g49 H', ro_g53 H', Option.bind_some, ro_a47 H' (show i < 6 by omega), ro_a53 H' (show i < 6 by omega), r_times, r_plus, bnd_some, ro_ck H', r_put H' hl, ro_s49 H' (show i < 6 by omega), rwD_stD, li1, ni_add, hpI_rwD, hpD_rwD_ne (show m + 45 ≠ m + 47 by omega), hpD_rwD_ne (show m + 51 ≠ m + 47 by omega)]
      rw [← rowU_s, ev, if_pos q]
      rfl
    · simp only [f_X9_leap_101, f_X9_leap_159, if_neg (show ¬ nI n ≤ nI i by rw [ni_le (by omega) (by omega)]; omega), if_pos (show nI (n / 2) ≤ nI i by rw [ni_le (by omega) (by omega)]; omega), ro_g48 H', ro_g49 H', Option.bind_some, ro_a48 H' (show i < 6 by omega), ro_s49 H' (show i < 6 by omega), rwD_stD, li1, ni_add, hpD_rwD_ne (show m + 46 ≠ m + 47 by omega)]
      rw [← rowU_s, ev, if_neg q]
  · intro fuel
    simp only [f_X9_leap_101, if_pos (show nI n ≤ nI n from (ni_le (by omega) (by omega)).mpr (Nat.le_refl _))]
theorem q_leap_187 {h : Hp} {m l n : Nat} {v7 : UInt64} (H : RO h m) (hl : l < 8) (hn : n ≤ 6) : ∃ G, f_X9_leap_187 fuelN (some m) (nI l) (nI n) v7 (nI (n / 2)) h = some ((), rwD h (m + 47) G) ∧ ∀ i, i < n → G i = if i < n / 2 then hpD h (m + 47) i else mvV (hpI h (m + 2) l) (hpD h (m + 46)) v7 (hpD h (m + 52)) i := by
  generalize hE : mvV (hpI h (m + 2) l) (hpD h (m + 46)) v7 (hpD h (m + 52)) = E
  have ev : ∀ i, E i = mvV (hpI h (m + 2) l) (hpD h (m + 46)) v7 (hpD h (m + 52)) i := fun i => by rw [← hE]
  refine ⟨fun j => if n / 2 ≤ j ∧ j < n then E j else hpD h (m + 47) j, ?_, fun i hi => ?_⟩
  · have := loop_from (fun fuel i hh => f_X9_leap_187 fuel (some m) (nI l) (nI n) v7 i hh) (fun i => rwD h (m + 47) (fun j => if n / 2 ≤ j ∧ j < i then E j else hpD h (m + 47) j)) (n := n) (a := n / 2) (res := some ((), rwD h (m + 47) (fun j => if n / 2 ≤ j ∧ j < n then E j else hpD h (m + 47) j))) (by omega) (by omega) ?_ ?_
    · have e0 : (fun j => if n / 2 ≤ j ∧ j < n / 2 then E j else hpD h (m + 47) j) = hpD h (m + 47) := by
        funext j
        rw [if_neg (by omega)]
      rw [e0, rwD_self] at this
      exact this
    · intro fuel i h0 hi
      have H' := H.rwD (m + 47) (fun j => if n / 2 ≤ j ∧ j < i then E j else hpD h (m + 47) j)
      simp only [f_X9_leap_187, if_neg (show ¬ nI n ≤ nI i by rw [ni_le (by omega) (by omega)]; omega), ro_g48 H', ro_g49 H', ro_g54 H', Option.bind_some, ro_a48 H' (show i < 6 by omega), ro_a54 H' (show i < 6 by omega), r_times, r_plus, bnd_some, ro_ck H', r_put H' hl, ro_s49 H' (show i < 6 by omega), rwD_stD, li1, ni_add, hpI_rwD, hpD_rwD_ne (show m + 46 ≠ m + 47 by omega), hpD_rwD_ne (show m + 52 ≠ m + 47 by omega)]
      congr 2
      funext j
      unfold up1
      by_cases e : j = i
      · subst e
        rw [if_pos rfl, if_pos (by omega), ev]
        rfl
      · rw [if_neg e]
        dsimp only
        by_cases q : n / 2 ≤ j ∧ j < i
        · rw [if_pos q, if_pos (by omega)]
        · rw [if_neg q, if_neg (by omega)]
    · intro fuel
      simp only [f_X9_leap_187, if_pos (show nI n ≤ nI n from (ni_le (by omega) (by omega)).mpr (Nat.le_refl _))]
  · dsimp only
    by_cases q : i < n / 2
    · rw [if_pos q, if_neg (by omega)]
    · rw [if_neg q, if_pos (by omega)]
theorem cv_yL {F : FT} {nar : Int32} {n : Nat} {t h : UInt64} {x : Nat → UInt64} (hx : ∀ i, i < n → Cv (x i)) (i : Nat) (hi : i < n) : Cv (yL F nar n t h x i) := by
  unfold yL
  split
  · exact hx i hi
  · exact cv_mvV _ _ _ _ _
theorem cv_z1L {F : FT} {nar : Int32} {n : Nat} {t h : UInt64} {x : Nat → UInt64} (hx : ∀ i, i < n → Cv (x i)) (i : Nat) (hi : i < n) : Cv (z1L F nar n t h x i) := by
  unfold z1L
  split
  · exact cv_mvV _ _ _ _ _
  · exact cv_yL hx i hi
theorem r_leap {h : Hp} {m l n ns N : Nat} {t hh : UInt64} (X : SX h m l n ns N) (ft : Nm t) (fh : HB hh) (hx : ∀ i, i < n → Cv (hpD h (m + 45) i)) (hk1 : ∀ i, i < n → hpD h (m + 50) i = fR h m l N t (hpD h (m + 45)) i) (hw : hpI h m 60 = 0 ∨ hpI h m 60 = 1) :
    ∃ h', f_X9_leap m (nI l) (nI n) t hh h = some ((), h') ∧ Scr h h' m ∧ hpD h' (m + 50) = hpD h (m + 50) ∧ (∀ i, i < n → hpD h' (m + 51) i = k2L (fR h m l N) (hpI h (m + 2) l) n t hh (hpD h (m + 45)) i) ∧ (∀ i, i < n → hpD h' (m + 52) i = k3L (fR h m l N) (hpI h (m + 2) l) n t hh (hpD h (m + 45)) i) ∧ (∀ i, i < n → hpD h' (m + 47) i = zL (fR h m l N) (hpI h (m + 2) l) n t hh (hpD h (m + 45)) i) ∧ hpI h' m 60 = wlS (k3L (fR h m l N) (hpI h (m + 2) l) n t hh (hpD h (m + 45))) n (wlS (k2L (fR h m l N) (hpI h (m + 2) l) n t hh (hpD h (m + 45))) n (hpI h m 60)) ∧ hpI h' m 61 = hpI h m 61 := by
  have hl := X.2.1.1
  have hn := X.2.1.2.2.2.1
  have ng := div_nm fh.fn ky_c2 (by omega)
  unfold f_X9_leap
  rw [fop_ok ng, Option.bind_some, ni_half hn, q_leap_16 X.1 hl hn]
  dsimp only
  have y1 : ∀ i, i < n → hpD (rwD h (m + 46) (rowU n (fun i => if i < n / 2 then hpD h (m + 45) i else mvV (hpI h (m + 2) l) (hpD h (m + 45)) (FP.ddiv hh c2) (hpD h (m + 50)) i) (hpD h (m + 46)))) (m + 46) i = yL (fR h m l N) (hpI h (m + 2) l) n t hh (hpD h (m + 45)) i := fun i hi => by
    rw [hpD_rwD_self, rowU_lt hi]
    unfold yL
    split
    · rfl
    · exact mvV_congr rfl (hk1 i hi)
  have S1 : Scr h (rwD h (m + 46) (rowU n (fun i => if i < n / 2 then hpD h (m + 45) i else mvV (hpI h (m + 2) l) (hpD h (m + 45)) (FP.ddiv hh c2) (hpD h (m + 50)) i) (hpD h (m + 46)))) m := (Scr.refl h m).rwD (m + 46) _ (by omega)
  generalize e1 : rwD h (m + 46) _ = h1 at S1 y1 ⊢
  have d1 : ∀ a, a ≠ m + 46 → hpD h1 a = hpD h a := fun a ha => by rw [← e1, hpD_rwD_ne ha]
  have w1 : hpI h1 m = hpI h m := by rw [← e1]; rfl
  have H1 := scr_RO S1 X.1
  obtain ⟨h2, e2, S2, k2, o2, v2, b2, u2⟩ := st_rates (t := FP.dadd t (FP.ddiv hh c2)) (st := m + 46) (out := m + 51) X S1 (by omega) (by omega) (add_nm2 ft (fn_half fh)) y1 (fun i hi => cv_yL hx i hi) (by rw [w1]; exact hw)
  rw [fop_ok (add_nm2 ft (fn_half fh)), Option.bind_some, ro_g48 H1, Option.bind_some, ro_g53 H1, Option.bind_some, ro_ck H1, Option.bind_some, e2, bnd_some, q_leap_101 (scr_RO S2 X.1) hl hn]
  dsimp only
  have i2 : hpI h2 (m + 2) l = hpI h (m + 2) l := by rw [S2.2.2.2.1 (m + 2) (by omega)]
  have x2 : hpD h2 (m + 45) = hpD h (m + 45) := S2.2.2.2.2.2 (m + 45) (by omega)
  have y2 : ∀ i, i < n → hpD h2 (m + 46) i = yL (fR h m l N) (hpI h (m + 2) l) n t hh (hpD h (m + 45)) i := fun i hi => by rw [o2 _ (by omega) (by omega)]; exact y1 i hi
  have y3 : ∀ i, i < n → hpD (rwD h2 (m + 47) (rowU n (fun i => if i < n / 2 then mvV (hpI h2 (m + 2) l) (hpD h2 (m + 45)) hh (hpD h2 (m + 51)) i else hpD h2 (m + 46) i) (hpD h2 (m + 47)))) (m + 47) i = z1L (fR h m l N) (hpI h (m + 2) l) n t hh (hpD h (m + 45)) i := fun i hi => by
    rw [hpD_rwD_self, rowU_lt hi]
    unfold z1L
    split
    · rw [i2, x2]; exact mvV_congr rfl (k2 i hi)
    · exact y2 i hi
  have S3 : Scr h (rwD h2 (m + 47) (rowU n (fun i => if i < n / 2 then mvV (hpI h2 (m + 2) l) (hpD h2 (m + 45)) hh (hpD h2 (m + 51)) i else hpD h2 (m + 46) i) (hpD h2 (m + 47)))) m := S2.rwD (m + 47) _ (by omega)
  generalize e3 : rwD h2 (m + 47) _ = h3 at S3 y3 ⊢
  have d3 : ∀ a, a ≠ m + 47 → hpD h3 a = hpD h2 a := fun a ha => by rw [← e3, hpD_rwD_ne ha]
  have w3 : hpI h3 m = hpI h2 m := by rw [← e3]; rfl
  have H3 := scr_RO S3 X.1
  obtain ⟨h4, e4, S4, k4, o4, v4, b4, u4⟩ := st_rates (t := FP.dadd t hh) (st := m + 47) (out := m + 52) X S3 (by omega) (by omega) (add_nm2 ft fh.fn) y3 (fun i hi => cv_z1L hx i hi) (by rw [w3]; exact b2)
  rw [fop_ok (add_nm2 ft fh.fn), Option.bind_some, ro_g49 H3, Option.bind_some, ro_g54 H3, Option.bind_some, ro_ck H3, Option.bind_some, e4, bnd_some]
  obtain ⟨G, e5, g5⟩ := q_leap_187 (v7 := FP.ddiv hh c2) (scr_RO S4 X.1) hl hn
  rw [e5]
  have i4 : hpI h4 (m + 2) l = hpI h (m + 2) l := by rw [S4.2.2.2.1 (m + 2) (by omega)]
  have y4 : ∀ i, i < n → hpD h4 (m + 46) i = yL (fR h m l N) (hpI h (m + 2) l) n t hh (hpD h (m + 45)) i := fun i hi => by rw [o4 _ (by omega) (by omega), d3 _ (by omega)]; exact y2 i hi
  refine ⟨_, rfl, S4.rwD (m + 47) G (by omega), ?_, fun i hi => ?_, fun i hi => ?_, fun i hi => ?_, ?_, ?_⟩
  · rw [hpD_rwD_ne (by omega), o4 _ (by omega) (by omega), d3 _ (by omega), o2 _ (by omega) (by omega), d1 _ (by omega)]
  · rw [hpD_rwD_ne (by omega), o4 _ (by omega) (by omega), d3 _ (by omega), k2 i hi]; rfl
  · rw [hpD_rwD_ne (by omega), k4 i hi]; rfl
  · rw [hpD_rwD_self, g5 i hi, zL]
    split
    · rw [o4 _ (by omega) (by omega)]; exact y3 i hi
    · rw [i4]; exact mvV_congr (y4 i hi) (k4 i hi)
  · rw [hpI_rwD, v4, w3, v2, w1]; rfl
  · rw [hpI_rwD, u4, w3, u2, w1]
