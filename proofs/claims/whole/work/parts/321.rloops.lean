/-! ===== the loops of the steps (written by program) ===== -/
def s3a (k1 k2 : Nat → UInt64) (i : Nat) : UInt64 := cn (FP.dsub (cn (FP.dmul 4611686018427387904 (k2 i))) (k1 i))
def s3b (k1 k2 k3 : Nat → UInt64) (i : Nat) : UInt64 := cn (FP.dadd (cn (FP.dadd (k1 i) (cn (FP.dmul 4616189618054758400 (k2 i))))) (k3 i))
def s4 (k1 k2 k3 k4 : Nat → UInt64) (i : Nat) : UInt64 := cn (FP.dadd (cn (FP.dadd (cn (FP.dadd (k1 i) (cn (FP.dmul 4611686018427387904 (k2 i))))) (cn (FP.dmul 4611686018427387904 (k3 i))))) (k4 i))
def spz (k1 k2 k3 : Nat → UInt64) (i : Nat) : UInt64 := cn (FP.dadd (cn (FP.dadd (cn (FP.dmul 4611686018427387904 (k1 i))) (cn (FP.dmul 4613937818241073152 (k2 i))))) (cn (FP.dmul 4616189618054758400 (k3 i))))
def spe (k1 k2 k3 k4 : Nat → UInt64) (i : Nat) : UInt64 := cn (FP.dsub (cn (FP.dsub (cn (FP.dadd (cn (FP.dmul 4618441417868443648 (k2 i))) (cn (FP.dmul 4620693217682128896 (k3 i))))) (cn (FP.dmul 4617315517961601024 (k1 i))))) (cn (FP.dmul 4621256167635550208 (k4 i))))
theorem q_byMiddle_11 {h : Hp} {m l n : Nat} {v3 v5 v7 : UInt64} (H : RO h m) (hl : l < 8) (hn : n ≤ 6) : f_X9_byMiddle_11 fuelN (some m) (nI l) (nI n) v3 v5 v7 0 h = (fun h => (
      (fop (FP.dadd v3 v7)).bind fun x2 =>
      (getR h (some m) 9 48).bind fun x3 =>
      (getR h (some m) 9 53).bind fun x4 =>
      (ab_ck h (some m) (9, 0)).bind fun a8 =>
      bnd (f_X9_rates a8 (nI l) x2 x3 x4 h) fun _ h6 =>
      f_X9_byMiddle_79 fuelN (some m) (nI l) (nI n) v5 0 h6)) (rwD h (m + 46) (rowU n (mvV (hpI h (m + 2) l) (hpD h (m + 45)) v7 (hpD h (m + 50))) (hpD h (m + 46)))) := by
  have := row_loop (fun fuel i hh => f_X9_byMiddle_11 fuel (some m) (nI l) (nI n) v3 v5 v7 i hh) (h := h) (dst := m + 46) (n := n) (E := (mvV (hpI h (m + 2) l) (hpD h (m + 45)) v7 (hpD h (m + 50)))) (old := hpD h (m + 46)) (res := (fun h => (
      (fop (FP.dadd v3 v7)).bind fun x2 =>
      (getR h (some m) 9 48).bind fun x3 =>
      (getR h (some m) 9 53).bind fun x4 =>
      (ab_ck h (some m) (9, 0)).bind fun a8 =>
      bnd (f_X9_rates a8 (nI l) x2 x3 x4 h) fun _ h6 =>
      f_X9_byMiddle_79 fuelN (some m) (nI l) (nI n) v5 0 h6)) (rwD h (m + 46) (rowU n (mvV (hpI h (m + 2) l) (hpD h (m + 45)) v7 (hpD h (m + 50))) (hpD h (m + 46))))) (by omega) ?_ ?_
  · rw [rwD_self] at this
    exact this
  · intro fuel i hi
    have H' := H.rwD (m + 46) (rowU i (mvV (hpI h (m + 2) l) (hpD h (m + 45)) v7 (hpD h (m + 50))) (hpD h (m + 46)))
    simp only [f_X9_byMiddle_11, if_neg (show ¬ nI n ≤ nI i by rw [ni_le (by omega) (by omega)]; omega), ro_g47 H', ro_g48 H', ro_g52 H', Option.bind_some, ro_a47 H' (show i < 6 by omega), ro_a52 H' (show i < 6 by omega), r_times, r_plus, r_less, bnd_some, ro_ck H', r_put H' hl, ro_s48 H' (show i < 6 by omega), rwD_stD, li1, ni_add, hpI_rwD, hpD_rwD_ne (show m + 45 ≠ m + 46 by omega) , hpD_rwD_ne (show m + 50 ≠ m + 46 by omega)]
    rw [← rowU_s]
    rfl
  · intro fuel
    simp only [f_X9_byMiddle_11, if_pos (show nI n ≤ nI n from (ni_le (by omega) (by omega)).mpr (Nat.le_refl _))]
theorem q_byMiddle_79 {h : Hp} {m l n : Nat} {v5 : UInt64} (H : RO h m) (hl : l < 8) (hn : n ≤ 6) : f_X9_byMiddle_79 fuelN (some m) (nI l) (nI n) v5 0 h = (fun h => (
      some ((), h))) (rwD h (m + 47) (rowU n (mvV (hpI h (m + 2) l) (hpD h (m + 45)) v5 (hpD h (m + 51))) (hpD h (m + 47)))) := by
  have := row_loop (fun fuel i hh => f_X9_byMiddle_79 fuel (some m) (nI l) (nI n) v5 i hh) (h := h) (dst := m + 47) (n := n) (E := (mvV (hpI h (m + 2) l) (hpD h (m + 45)) v5 (hpD h (m + 51)))) (old := hpD h (m + 47)) (res := (fun h => (
      some ((), h))) (rwD h (m + 47) (rowU n (mvV (hpI h (m + 2) l) (hpD h (m + 45)) v5 (hpD h (m + 51))) (hpD h (m + 47))))) (by omega) ?_ ?_
  · rw [rwD_self] at this
    exact this
  · intro fuel i hi
    have H' := H.rwD (m + 47) (rowU i (mvV (hpI h (m + 2) l) (hpD h (m + 45)) v5 (hpD h (m + 51))) (hpD h (m + 47)))
    simp only [f_X9_byMiddle_79, if_neg (show ¬ nI n ≤ nI i by rw [ni_le (by omega) (by omega)]; omega), ro_g47 H', ro_g49 H', ro_g53 H', Option.bind_some, ro_a47 H' (show i < 6 by omega), ro_a53 H' (show i < 6 by omega), r_times, r_plus, r_less, bnd_some, ro_ck H', r_put H' hl, ro_s49 H' (show i < 6 by omega), rwD_stD, li1, ni_add, hpI_rwD, hpD_rwD_ne (show m + 45 ≠ m + 47 by omega) , hpD_rwD_ne (show m + 51 ≠ m + 47 by omega)]
    rw [← rowU_s]
    rfl
  · intro fuel
    simp only [f_X9_byMiddle_79, if_pos (show nI n ≤ nI n from (ni_le (by omega) (by omega)).mpr (Nat.le_refl _))]
theorem q_third_11 {h : Hp} {m l n : Nat} {v3 v5 v7 : UInt64} (H : RO h m) (hl : l < 8) (hn : n ≤ 6) : f_X9_third_11 fuelN (some m) (nI l) (nI n) v3 v5 v7 0 h = (fun h => (
      (fop (FP.dadd v3 v7)).bind fun x2 =>
      (getR h (some m) 9 48).bind fun x3 =>
      (getR h (some m) 9 53).bind fun x4 =>
      (ab_ck h (some m) (9, 0)).bind fun a8 =>
      bnd (f_X9_rates a8 (nI l) x2 x3 x4 h) fun _ h6 =>
      f_X9_third_79 fuelN (some m) (nI l) (nI n) v3 v5 0 h6)) (rwD h (m + 46) (rowU n (mvV (hpI h (m + 2) l) (hpD h (m + 45)) v7 (hpD h (m + 50))) (hpD h (m + 46)))) := by
  have := row_loop (fun fuel i hh => f_X9_third_11 fuel (some m) (nI l) (nI n) v3 v5 v7 i hh) (h := h) (dst := m + 46) (n := n) (E := (mvV (hpI h (m + 2) l) (hpD h (m + 45)) v7 (hpD h (m + 50)))) (old := hpD h (m + 46)) (res := (fun h => (
      (fop (FP.dadd v3 v7)).bind fun x2 =>
      (getR h (some m) 9 48).bind fun x3 =>
      (getR h (some m) 9 53).bind fun x4 =>
      (ab_ck h (some m) (9, 0)).bind fun a8 =>
      bnd (f_X9_rates a8 (nI l) x2 x3 x4 h) fun _ h6 =>
      f_X9_third_79 fuelN (some m) (nI l) (nI n) v3 v5 0 h6)) (rwD h (m + 46) (rowU n (mvV (hpI h (m + 2) l) (hpD h (m + 45)) v7 (hpD h (m + 50))) (hpD h (m + 46))))) (by omega) ?_ ?_
  · rw [rwD_self] at this
    exact this
  · intro fuel i hi
    have H' := H.rwD (m + 46) (rowU i (mvV (hpI h (m + 2) l) (hpD h (m + 45)) v7 (hpD h (m + 50))) (hpD h (m + 46)))
    simp only [f_X9_third_11, if_neg (show ¬ nI n ≤ nI i by rw [ni_le (by omega) (by omega)]; omega), ro_g47 H', ro_g48 H', ro_g52 H', Option.bind_some, ro_a47 H' (show i < 6 by omega), ro_a52 H' (show i < 6 by omega), r_times, r_plus, r_less, bnd_some, ro_ck H', r_put H' hl, ro_s48 H' (show i < 6 by omega), rwD_stD, li1, ni_add, hpI_rwD, hpD_rwD_ne (show m + 45 ≠ m + 46 by omega) , hpD_rwD_ne (show m + 50 ≠ m + 46 by omega)]
    rw [← rowU_s]
    rfl
  · intro fuel
    simp only [f_X9_third_11, if_pos (show nI n ≤ nI n from (ni_le (by omega) (by omega)).mpr (Nat.le_refl _))]
theorem q_third_79 {h : Hp} {m l n : Nat} {v3 v5 : UInt64} (H : RO h m) (hl : l < 8) (hn : n ≤ 6) : f_X9_third_79 fuelN (some m) (nI l) (nI n) v3 v5 0 h = (fun h => (
      (fop (FP.dadd v3 v5)).bind fun x2 =>
      (getR h (some m) 9 48).bind fun x3 =>
      (getR h (some m) 9 54).bind fun x4 =>
      (ab_ck h (some m) (9, 0)).bind fun a8 =>
      bnd (f_X9_rates a8 (nI l) x2 x3 x4 h) fun _ h6 =>
      f_X9_third_163 fuelN (some m) (nI l) (nI n) v5 0 h6)) (rwD h (m + 46) (rowU n (mvV (hpI h (m + 2) l) (hpD h (m + 45)) v5 (s3a (hpD h (m + 50)) (hpD h (m + 51)))) (hpD h (m + 46)))) := by
  have := row_loop (fun fuel i hh => f_X9_third_79 fuel (some m) (nI l) (nI n) v3 v5 i hh) (h := h) (dst := m + 46) (n := n) (E := (mvV (hpI h (m + 2) l) (hpD h (m + 45)) v5 (s3a (hpD h (m + 50)) (hpD h (m + 51))))) (old := hpD h (m + 46)) (res := (fun h => (
      (fop (FP.dadd v3 v5)).bind fun x2 =>
      (getR h (some m) 9 48).bind fun x3 =>
      (getR h (some m) 9 54).bind fun x4 =>
      (ab_ck h (some m) (9, 0)).bind fun a8 =>
      bnd (f_X9_rates a8 (nI l) x2 x3 x4 h) fun _ h6 =>
      f_X9_third_163 fuelN (some m) (nI l) (nI n) v5 0 h6)) (rwD h (m + 46) (rowU n (mvV (hpI h (m + 2) l) (hpD h (m + 45)) v5 (s3a (hpD h (m + 50)) (hpD h (m + 51)))) (hpD h (m + 46))))) (by omega) ?_ ?_
  · rw [rwD_self] at this
    exact this
  · intro fuel i hi
    have H' := H.rwD (m + 46) (rowU i (mvV (hpI h (m + 2) l) (hpD h (m + 45)) v5 (s3a (hpD h (m + 50)) (hpD h (m + 51)))) (hpD h (m + 46)))
    simp only [f_X9_third_79, if_neg (show ¬ nI n ≤ nI i by rw [ni_le (by omega) (by omega)]; omega), ro_g47 H', ro_g48 H', ro_g52 H', ro_g53 H', Option.bind_some, ro_a47 H' (show i < 6 by omega), ro_a52 H' (show i < 6 by omega), ro_a53 H' (show i < 6 by omega), r_times, r_plus, r_less, bnd_some, ro_ck H', r_put H' hl, ro_s48 H' (show i < 6 by omega), rwD_stD, li1, ni_add, hpI_rwD, hpD_rwD_ne (show m + 45 ≠ m + 46 by omega) , hpD_rwD_ne (show m + 50 ≠ m + 46 by omega) , hpD_rwD_ne (show m + 51 ≠ m + 46 by omega)]
    rw [← rowU_s]
    rfl
  · intro fuel
    simp only [f_X9_third_79, if_pos (show nI n ≤ nI n from (ni_le (by omega) (by omega)).mpr (Nat.le_refl _))]
theorem q_third_163 {h : Hp} {m l n : Nat} {v5 : UInt64} (H : RO h m) (hl : l < 8) (hn : n ≤ 6) (hq : Nm (FP.ddiv v5 4618441417868443648)) : f_X9_third_163 fuelN (some m) (nI l) (nI n) v5 0 h = (fun h => (
      some ((), h))) (rwD h (m + 47) (rowU n (mvV (hpI h (m + 2) l) (hpD h (m + 45)) (FP.ddiv v5 4618441417868443648) (s3b (hpD h (m + 50)) (hpD h (m + 51)) (hpD h (m + 52)))) (hpD h (m + 47)))) := by
  have := row_loop (fun fuel i hh => f_X9_third_163 fuel (some m) (nI l) (nI n) v5 i hh) (h := h) (dst := m + 47) (n := n) (E := (mvV (hpI h (m + 2) l) (hpD h (m + 45)) (FP.ddiv v5 4618441417868443648) (s3b (hpD h (m + 50)) (hpD h (m + 51)) (hpD h (m + 52))))) (old := hpD h (m + 47)) (res := (fun h => (
      some ((), h))) (rwD h (m + 47) (rowU n (mvV (hpI h (m + 2) l) (hpD h (m + 45)) (FP.ddiv v5 4618441417868443648) (s3b (hpD h (m + 50)) (hpD h (m + 51)) (hpD h (m + 52)))) (hpD h (m + 47))))) (by omega) ?_ ?_
  · rw [rwD_self] at this
    exact this
  · intro fuel i hi
    have H' := H.rwD (m + 47) (rowU i (mvV (hpI h (m + 2) l) (hpD h (m + 45)) (FP.ddiv v5 4618441417868443648) (s3b (hpD h (m + 50)) (hpD h (m + 51)) (hpD h (m + 52)))) (hpD h (m + 47)))
    simp only [f_X9_third_163, if_neg (show ¬ nI n ≤ nI i by rw [ni_le (by omega) (by omega)]; omega), ro_g47 H', ro_g49 H', ro_g52 H', ro_g53 H', ro_g54 H', Option.bind_some, ro_a47 H' (show i < 6 by omega), ro_a52 H' (show i < 6 by omega), ro_a53 H' (show i < 6 by omega), ro_a54 H' (show i < 6 by omega), r_times, r_plus, r_less, bnd_some, ro_ck H', r_put H' hl, ro_s49 H' (show i < 6 by omega), rwD_stD, li1, ni_add, hpI_rwD, hpD_rwD_ne (show m + 45 ≠ m + 47 by omega) , hpD_rwD_ne (show m + 50 ≠ m + 47 by omega) , hpD_rwD_ne (show m + 51 ≠ m + 47 by omega) , hpD_rwD_ne (show m + 52 ≠ m + 47 by omega), fop_ok hq]
    rw [← rowU_s]
    rfl
  · intro fuel
    simp only [f_X9_third_163, if_pos (show nI n ≤ nI n from (ni_le (by omega) (by omega)).mpr (Nat.le_refl _))]
theorem q_fourth_11 {h : Hp} {m l n : Nat} {v3 v5 v7 : UInt64} (H : RO h m) (hl : l < 8) (hn : n ≤ 6) : f_X9_fourth_11 fuelN (some m) (nI l) (nI n) v3 v5 v7 0 h = (fun h => (
      (fop (FP.dadd v3 v7)).bind fun x2 =>
      (getR h (some m) 9 48).bind fun x3 =>
      (getR h (some m) 9 53).bind fun x4 =>
      (ab_ck h (some m) (9, 0)).bind fun a8 =>
      bnd (f_X9_rates a8 (nI l) x2 x3 x4 h) fun _ h6 =>
      f_X9_fourth_79 fuelN (some m) (nI l) (nI n) v3 v5 v7 0 h6)) (rwD h (m + 46) (rowU n (mvV (hpI h (m + 2) l) (hpD h (m + 45)) v7 (hpD h (m + 50))) (hpD h (m + 46)))) := by
  have := row_loop (fun fuel i hh => f_X9_fourth_11 fuel (some m) (nI l) (nI n) v3 v5 v7 i hh) (h := h) (dst := m + 46) (n := n) (E := (mvV (hpI h (m + 2) l) (hpD h (m + 45)) v7 (hpD h (m + 50)))) (old := hpD h (m + 46)) (res := (fun h => (
      (fop (FP.dadd v3 v7)).bind fun x2 =>
      (getR h (some m) 9 48).bind fun x3 =>
      (getR h (some m) 9 53).bind fun x4 =>
      (ab_ck h (some m) (9, 0)).bind fun a8 =>
      bnd (f_X9_rates a8 (nI l) x2 x3 x4 h) fun _ h6 =>
      f_X9_fourth_79 fuelN (some m) (nI l) (nI n) v3 v5 v7 0 h6)) (rwD h (m + 46) (rowU n (mvV (hpI h (m + 2) l) (hpD h (m + 45)) v7 (hpD h (m + 50))) (hpD h (m + 46))))) (by omega) ?_ ?_
  · rw [rwD_self] at this
    exact this
  · intro fuel i hi
    have H' := H.rwD (m + 46) (rowU i (mvV (hpI h (m + 2) l) (hpD h (m + 45)) v7 (hpD h (m + 50))) (hpD h (m + 46)))
    simp only [f_X9_fourth_11, if_neg (show ¬ nI n ≤ nI i by rw [ni_le (by omega) (by omega)]; omega), ro_g47 H', ro_g48 H', ro_g52 H', Option.bind_some, ro_a47 H' (show i < 6 by omega), ro_a52 H' (show i < 6 by omega), r_times, r_plus, r_less, bnd_some, ro_ck H', r_put H' hl, ro_s48 H' (show i < 6 by omega), rwD_stD, li1, ni_add, hpI_rwD, hpD_rwD_ne (show m + 45 ≠ m + 46 by omega) , hpD_rwD_ne (show m + 50 ≠ m + 46 by omega)]
    rw [← rowU_s]
    rfl
  · intro fuel
    simp only [f_X9_fourth_11, if_pos (show nI n ≤ nI n from (ni_le (by omega) (by omega)).mpr (Nat.le_refl _))]
theorem q_fourth_79 {h : Hp} {m l n : Nat} {v3 v5 v7 : UInt64} (H : RO h m) (hl : l < 8) (hn : n ≤ 6) : f_X9_fourth_79 fuelN (some m) (nI l) (nI n) v3 v5 v7 0 h = (fun h => (
      (fop (FP.dadd v3 v7)).bind fun x2 =>
      (getR h (some m) 9 48).bind fun x3 =>
      (getR h (some m) 9 54).bind fun x4 =>
      (ab_ck h (some m) (9, 0)).bind fun a8 =>
      bnd (f_X9_rates a8 (nI l) x2 x3 x4 h) fun _ h6 =>
      f_X9_fourth_147 fuelN (some m) (nI l) (nI n) v3 v5 0 h6)) (rwD h (m + 46) (rowU n (mvV (hpI h (m + 2) l) (hpD h (m + 45)) v7 (hpD h (m + 51))) (hpD h (m + 46)))) := by
  have := row_loop (fun fuel i hh => f_X9_fourth_79 fuel (some m) (nI l) (nI n) v3 v5 v7 i hh) (h := h) (dst := m + 46) (n := n) (E := (mvV (hpI h (m + 2) l) (hpD h (m + 45)) v7 (hpD h (m + 51)))) (old := hpD h (m + 46)) (res := (fun h => (
      (fop (FP.dadd v3 v7)).bind fun x2 =>
      (getR h (some m) 9 48).bind fun x3 =>
      (getR h (some m) 9 54).bind fun x4 =>
      (ab_ck h (some m) (9, 0)).bind fun a8 =>
      bnd (f_X9_rates a8 (nI l) x2 x3 x4 h) fun _ h6 =>
      f_X9_fourth_147 fuelN (some m) (nI l) (nI n) v3 v5 0 h6)) (rwD h (m + 46) (rowU n (mvV (hpI h (m + 2) l) (hpD h (m + 45)) v7 (hpD h (m + 51))) (hpD h (m + 46))))) (by omega) ?_ ?_
  · rw [rwD_self] at this
    exact this
  · intro fuel i hi
    have H' := H.rwD (m + 46) (rowU i (mvV (hpI h (m + 2) l) (hpD h (m + 45)) v7 (hpD h (m + 51))) (hpD h (m + 46)))
    simp only [f_X9_fourth_79, if_neg (show ¬ nI n ≤ nI i by rw [ni_le (by omega) (by omega)]; omega), ro_g47 H', ro_g48 H', ro_g53 H', Option.bind_some, ro_a47 H' (show i < 6 by omega), ro_a53 H' (show i < 6 by omega), r_times, r_plus, r_less, bnd_some, ro_ck H', r_put H' hl, ro_s48 H' (show i < 6 by omega), rwD_stD, li1, ni_add, hpI_rwD, hpD_rwD_ne (show m + 45 ≠ m + 46 by omega) , hpD_rwD_ne (show m + 51 ≠ m + 46 by omega)]
    rw [← rowU_s]
    rfl
  · intro fuel
    simp only [f_X9_fourth_79, if_pos (show nI n ≤ nI n from (ni_le (by omega) (by omega)).mpr (Nat.le_refl _))]
theorem q_fourth_147 {h : Hp} {m l n : Nat} {v3 v5 : UInt64} (H : RO h m) (hl : l < 8) (hn : n ≤ 6) : f_X9_fourth_147 fuelN (some m) (nI l) (nI n) v3 v5 0 h = (fun h => (
      (fop (FP.dadd v3 v5)).bind fun x2 =>
      (getR h (some m) 9 48).bind fun x3 =>
      (getR h (some m) 9 55).bind fun x4 =>
      (ab_ck h (some m) (9, 0)).bind fun a8 =>
      bnd (f_X9_rates a8 (nI l) x2 x3 x4 h) fun _ h6 =>
      f_X9_fourth_215 fuelN (some m) (nI l) (nI n) v5 0 h6)) (rwD h (m + 46) (rowU n (mvV (hpI h (m + 2) l) (hpD h (m + 45)) v5 (hpD h (m + 52))) (hpD h (m + 46)))) := by
  have := row_loop (fun fuel i hh => f_X9_fourth_147 fuel (some m) (nI l) (nI n) v3 v5 i hh) (h := h) (dst := m + 46) (n := n) (E := (mvV (hpI h (m + 2) l) (hpD h (m + 45)) v5 (hpD h (m + 52)))) (old := hpD h (m + 46)) (res := (fun h => (
      (fop (FP.dadd v3 v5)).bind fun x2 =>
      (getR h (some m) 9 48).bind fun x3 =>
      (getR h (some m) 9 55).bind fun x4 =>
      (ab_ck h (some m) (9, 0)).bind fun a8 =>
      bnd (f_X9_rates a8 (nI l) x2 x3 x4 h) fun _ h6 =>
      f_X9_fourth_215 fuelN (some m) (nI l) (nI n) v5 0 h6)) (rwD h (m + 46) (rowU n (mvV (hpI h (m + 2) l) (hpD h (m + 45)) v5 (hpD h (m + 52))) (hpD h (m + 46))))) (by omega) ?_ ?_
  · rw [rwD_self] at this
    exact this
  · intro fuel i hi
    have H' := H.rwD (m + 46) (rowU i (mvV (hpI h (m + 2) l) (hpD h (m + 45)) v5 (hpD h (m + 52))) (hpD h (m + 46)))
    simp only [f_X9_fourth_147, if_neg (show ¬ nI n ≤ nI i by rw [ni_le (by omega) (by omega)]; omega), ro_g47 H', ro_g48 H', ro_g54 H', Option.bind_some, ro_a47 H' (show i < 6 by omega), ro_a54 H' (show i < 6 by omega), r_times, r_plus, r_less, bnd_some, ro_ck H', r_put H' hl, ro_s48 H' (show i < 6 by omega), rwD_stD, li1, ni_add, hpI_rwD, hpD_rwD_ne (show m + 45 ≠ m + 46 by omega) , hpD_rwD_ne (show m + 52 ≠ m + 46 by omega)]
    rw [← rowU_s]
    rfl
  · intro fuel
    simp only [f_X9_fourth_147, if_pos (show nI n ≤ nI n from (ni_le (by omega) (by omega)).mpr (Nat.le_refl _))]
theorem q_fourth_215 {h : Hp} {m l n : Nat} {v5 : UInt64} (H : RO h m) (hl : l < 8) (hn : n ≤ 6) (hq : Nm (FP.ddiv v5 4618441417868443648)) : f_X9_fourth_215 fuelN (some m) (nI l) (nI n) v5 0 h = (fun h => (
      some ((), h))) (rwD h (m + 47) (rowU n (mvV (hpI h (m + 2) l) (hpD h (m + 45)) (FP.ddiv v5 4618441417868443648) (s4 (hpD h (m + 50)) (hpD h (m + 51)) (hpD h (m + 52)) (hpD h (m + 53)))) (hpD h (m + 47)))) := by
  have := row_loop (fun fuel i hh => f_X9_fourth_215 fuel (some m) (nI l) (nI n) v5 i hh) (h := h) (dst := m + 47) (n := n) (E := (mvV (hpI h (m + 2) l) (hpD h (m + 45)) (FP.ddiv v5 4618441417868443648) (s4 (hpD h (m + 50)) (hpD h (m + 51)) (hpD h (m + 52)) (hpD h (m + 53))))) (old := hpD h (m + 47)) (res := (fun h => (
      some ((), h))) (rwD h (m + 47) (rowU n (mvV (hpI h (m + 2) l) (hpD h (m + 45)) (FP.ddiv v5 4618441417868443648) (s4 (hpD h (m + 50)) (hpD h (m + 51)) (hpD h (m + 52)) (hpD h (m + 53)))) (hpD h (m + 47))))) (by omega) ?_ ?_
  · rw [rwD_self] at this
    exact this
  · intro fuel i hi
    have H' := H.rwD (m + 47) (rowU i (mvV (hpI h (m + 2) l) (hpD h (m + 45)) (FP.ddiv v5 4618441417868443648) (s4 (hpD h (m + 50)) (hpD h (m + 51)) (hpD h (m + 52)) (hpD h (m + 53)))) (hpD h (m + 47)))
    simp only [f_X9_fourth_215, if_neg (show ¬ nI n ≤ nI i by rw [ni_le (by omega) (by omega)]; omega), ro_g47 H', ro_g49 H', ro_g52 H', ro_g53 H', ro_g54 H', ro_g55 H', Option.bind_some, ro_a47 H' (show i < 6 by omega), ro_a52 H' (show i < 6 by omega), ro_a53 H' (show i < 6 by omega), ro_a54 H' (show i < 6 by omega), ro_a55 H' (show i < 6 by omega), r_times, r_plus, r_less, bnd_some, ro_ck H', r_put H' hl, ro_s49 H' (show i < 6 by omega), rwD_stD, li1, ni_add, hpI_rwD, hpD_rwD_ne (show m + 45 ≠ m + 47 by omega) , hpD_rwD_ne (show m + 50 ≠ m + 47 by omega) , hpD_rwD_ne (show m + 51 ≠ m + 47 by omega) , hpD_rwD_ne (show m + 52 ≠ m + 47 by omega) , hpD_rwD_ne (show m + 53 ≠ m + 47 by omega), fop_ok hq]
    rw [← rowU_s]
    rfl
  · intro fuel
    simp only [f_X9_fourth_215, if_pos (show nI n ≤ nI n from (ni_le (by omega) (by omega)).mpr (Nat.le_refl _))]
theorem q_pair_23 {h : Hp} {m l n : Nat} {v3 v5 v7 v9 : UInt64} (H : RO h m) (hl : l < 8) (hn : n ≤ 6) : f_X9_pair_23 fuelN (some m) (nI l) (nI n) v3 v5 v7 v9 0 h = (fun h => (
      (fop (FP.dadd v3 v7)).bind fun x2 =>
      (getR h (some m) 9 48).bind fun x3 =>
      (getR h (some m) 9 53).bind fun x4 =>
      (ab_ck h (some m) (9, 0)).bind fun a8 =>
      bnd (f_X9_rates a8 (nI l) x2 x3 x4 h) fun _ h6 =>
      f_X9_pair_91 fuelN (some m) (nI l) (nI n) v3 v5 v9 0 h6)) (rwD h (m + 46) (rowU n (mvV (hpI h (m + 2) l) (hpD h (m + 45)) v7 (hpD h (m + 50))) (hpD h (m + 46)))) := by
  have := row_loop (fun fuel i hh => f_X9_pair_23 fuel (some m) (nI l) (nI n) v3 v5 v7 v9 i hh) (h := h) (dst := m + 46) (n := n) (E := (mvV (hpI h (m + 2) l) (hpD h (m + 45)) v7 (hpD h (m + 50)))) (old := hpD h (m + 46)) (res := (fun h => (
      (fop (FP.dadd v3 v7)).bind fun x2 =>
      (getR h (some m) 9 48).bind fun x3 =>
      (getR h (some m) 9 53).bind fun x4 =>
      (ab_ck h (some m) (9, 0)).bind fun a8 =>
      bnd (f_X9_rates a8 (nI l) x2 x3 x4 h) fun _ h6 =>
      f_X9_pair_91 fuelN (some m) (nI l) (nI n) v3 v5 v9 0 h6)) (rwD h (m + 46) (rowU n (mvV (hpI h (m + 2) l) (hpD h (m + 45)) v7 (hpD h (m + 50))) (hpD h (m + 46))))) (by omega) ?_ ?_
  · rw [rwD_self] at this
    exact this
  · intro fuel i hi
    have H' := H.rwD (m + 46) (rowU i (mvV (hpI h (m + 2) l) (hpD h (m + 45)) v7 (hpD h (m + 50))) (hpD h (m + 46)))
    simp only [f_X9_pair_23, if_neg (show ¬ nI n ≤ nI i by rw [ni_le (by omega) (by omega)]; omega), ro_g47 H', ro_g48 H', ro_g52 H', Option.bind_some, ro_a47 H' (show i < 6 by omega), ro_a52 H' (show i < 6 by omega), r_times, r_plus, r_less, bnd_some, ro_ck H', r_put H' hl, ro_s48 H' (show i < 6 by omega), rwD_stD, li1, ni_add, hpI_rwD, hpD_rwD_ne (show m + 45 ≠ m + 46 by omega) , hpD_rwD_ne (show m + 50 ≠ m + 46 by omega)]
    rw [← rowU_s]
    rfl
  · intro fuel
    simp only [f_X9_pair_23, if_pos (show nI n ≤ nI n from (ni_le (by omega) (by omega)).mpr (Nat.le_refl _))]
theorem q_pair_91 {h : Hp} {m l n : Nat} {v3 v5 v9 : UInt64} (H : RO h m) (hl : l < 8) (hn : n ≤ 6) : f_X9_pair_91 fuelN (some m) (nI l) (nI n) v3 v5 v9 0 h = (fun h => (
      (fop (FP.dadd v3 v9)).bind fun x2 =>
      (getR h (some m) 9 48).bind fun x3 =>
      (getR h (some m) 9 54).bind fun x4 =>
      (ab_ck h (some m) (9, 0)).bind fun a8 =>
      bnd (f_X9_rates a8 (nI l) x2 x3 x4 h) fun _ h6 =>
      f_X9_pair_159 fuelN (some m) (nI l) (nI n) v3 v5 0 h6)) (rwD h (m + 46) (rowU n (mvV (hpI h (m + 2) l) (hpD h (m + 45)) v9 (hpD h (m + 51))) (hpD h (m + 46)))) := by
  have := row_loop (fun fuel i hh => f_X9_pair_91 fuel (some m) (nI l) (nI n) v3 v5 v9 i hh) (h := h) (dst := m + 46) (n := n) (E := (mvV (hpI h (m + 2) l) (hpD h (m + 45)) v9 (hpD h (m + 51)))) (old := hpD h (m + 46)) (res := (fun h => (
      (fop (FP.dadd v3 v9)).bind fun x2 =>
      (getR h (some m) 9 48).bind fun x3 =>
      (getR h (some m) 9 54).bind fun x4 =>
      (ab_ck h (some m) (9, 0)).bind fun a8 =>
      bnd (f_X9_rates a8 (nI l) x2 x3 x4 h) fun _ h6 =>
      f_X9_pair_159 fuelN (some m) (nI l) (nI n) v3 v5 0 h6)) (rwD h (m + 46) (rowU n (mvV (hpI h (m + 2) l) (hpD h (m + 45)) v9 (hpD h (m + 51))) (hpD h (m + 46))))) (by omega) ?_ ?_
  · rw [rwD_self] at this
    exact this
  · intro fuel i hi
    have H' := H.rwD (m + 46) (rowU i (mvV (hpI h (m + 2) l) (hpD h (m + 45)) v9 (hpD h (m + 51))) (hpD h (m + 46)))
    simp only [f_X9_pair_91, if_neg (show ¬ nI n ≤ nI i by rw [ni_le (by omega) (by omega)]; omega), ro_g47 H', ro_g48 H', ro_g53 H', Option.bind_some, ro_a47 H' (show i < 6 by omega), ro_a53 H' (show i < 6 by omega), r_times, r_plus, r_less, bnd_some, ro_ck H', r_put H' hl, ro_s48 H' (show i < 6 by omega), rwD_stD, li1, ni_add, hpI_rwD, hpD_rwD_ne (show m + 45 ≠ m + 46 by omega) , hpD_rwD_ne (show m + 51 ≠ m + 46 by omega)]
    rw [← rowU_s]
    rfl
  · intro fuel
    simp only [f_X9_pair_91, if_pos (show nI n ≤ nI n from (ni_le (by omega) (by omega)).mpr (Nat.le_refl _))]
theorem q_pair_159 {h : Hp} {m l n : Nat} {v3 v5 : UInt64} (H : RO h m) (hl : l < 8) (hn : n ≤ 6) (hq : Nm (FP.ddiv v5 4621256167635550208)) : f_X9_pair_159 fuelN (some m) (nI l) (nI n) v3 v5 0 h = (fun h => (
      (fop (FP.dadd v3 v5)).bind fun x2 =>
      (getR h (some m) 9 49).bind fun x3 =>
      (getR h (some m) 9 55).bind fun x4 =>
      (ab_ck h (some m) (9, 0)).bind fun a8 =>
      bnd (f_X9_rates a8 (nI l) x2 x3 x4 h) fun _ h6 =>
      f_X9_pair_269 fuelN (some m) (nI n) v5 0 h6)) (rwD h (m + 47) (rowU n (mvV (hpI h (m + 2) l) (hpD h (m + 45)) (FP.ddiv v5 4621256167635550208) (spz (hpD h (m + 50)) (hpD h (m + 51)) (hpD h (m + 52)))) (hpD h (m + 47)))) := by
  have := row_loop (fun fuel i hh => f_X9_pair_159 fuel (some m) (nI l) (nI n) v3 v5 i hh) (h := h) (dst := m + 47) (n := n) (E := (mvV (hpI h (m + 2) l) (hpD h (m + 45)) (FP.ddiv v5 4621256167635550208) (spz (hpD h (m + 50)) (hpD h (m + 51)) (hpD h (m + 52))))) (old := hpD h (m + 47)) (res := (fun h => (
      (fop (FP.dadd v3 v5)).bind fun x2 =>
      (getR h (some m) 9 49).bind fun x3 =>
      (getR h (some m) 9 55).bind fun x4 =>
      (ab_ck h (some m) (9, 0)).bind fun a8 =>
      bnd (f_X9_rates a8 (nI l) x2 x3 x4 h) fun _ h6 =>
      f_X9_pair_269 fuelN (some m) (nI n) v5 0 h6)) (rwD h (m + 47) (rowU n (mvV (hpI h (m + 2) l) (hpD h (m + 45)) (FP.ddiv v5 4621256167635550208) (spz (hpD h (m + 50)) (hpD h (m + 51)) (hpD h (m + 52)))) (hpD h (m + 47))))) (by omega) ?_ ?_
  · rw [rwD_self] at this
    exact this
  · intro fuel i hi
    have H' := H.rwD (m + 47) (rowU i (mvV (hpI h (m + 2) l) (hpD h (m + 45)) (FP.ddiv v5 4621256167635550208) (spz (hpD h (m + 50)) (hpD h (m + 51)) (hpD h (m + 52)))) (hpD h (m + 47)))
    simp only [f_X9_pair_159, if_neg (show ¬ nI n ≤ nI i by rw [ni_le (by omega) (by omega)]; omega), ro_g47 H', ro_g49 H', ro_g52 H', ro_g53 H', ro_g54 H', Option.bind_some, ro_a47 H' (show i < 6 by omega), ro_a52 H' (show i < 6 by omega), ro_a53 H' (show i < 6 by omega), ro_a54 H' (show i < 6 by omega), r_times, r_plus, r_less, bnd_some, ro_ck H', r_put H' hl, ro_s49 H' (show i < 6 by omega), rwD_stD, li1, ni_add, hpI_rwD, hpD_rwD_ne (show m + 45 ≠ m + 47 by omega) , hpD_rwD_ne (show m + 50 ≠ m + 47 by omega) , hpD_rwD_ne (show m + 51 ≠ m + 47 by omega) , hpD_rwD_ne (show m + 52 ≠ m + 47 by omega), fop_ok hq]
    rw [← rowU_s]
    rfl
  · intro fuel
    simp only [f_X9_pair_159, if_pos (show nI n ≤ nI n from (ni_le (by omega) (by omega)).mpr (Nat.le_refl _))]
theorem q_backward_3 {h : Hp} {m l n : Nat} {v3 v5 : UInt64} (H : RO h m) (hl : l < 8) (hn : n ≤ 6) : f_X9_backward_3 fuelN (some m) (nI l) (nI n) v3 v5 0 h = (fun h => (
      f_X9_backward_54 fuelN (some m) (nI l) (nI n) v3 v5 0 h)) (rwD h (m + 47) (rowU n (mvV (hpI h (m + 2) l) (hpD h (m + 45)) v5 (hpD h (m + 50))) (hpD h (m + 47)))) := by
  have := row_loop (fun fuel i hh => f_X9_backward_3 fuel (some m) (nI l) (nI n) v3 v5 i hh) (h := h) (dst := m + 47) (n := n) (E := (mvV (hpI h (m + 2) l) (hpD h (m + 45)) v5 (hpD h (m + 50)))) (old := hpD h (m + 47)) (res := (fun h => (
      f_X9_backward_54 fuelN (some m) (nI l) (nI n) v3 v5 0 h)) (rwD h (m + 47) (rowU n (mvV (hpI h (m + 2) l) (hpD h (m + 45)) v5 (hpD h (m + 50))) (hpD h (m + 47))))) (by omega) ?_ ?_
  · rw [rwD_self] at this
    exact this
  · intro fuel i hi
    have H' := H.rwD (m + 47) (rowU i (mvV (hpI h (m + 2) l) (hpD h (m + 45)) v5 (hpD h (m + 50))) (hpD h (m + 47)))
    simp only [f_X9_backward_3, if_neg (show ¬ nI n ≤ nI i by rw [ni_le (by omega) (by omega)]; omega), ro_g47 H', ro_g49 H', ro_g52 H', Option.bind_some, ro_a47 H' (show i < 6 by omega), ro_a52 H' (show i < 6 by omega), r_times, r_plus, r_less, bnd_some, ro_ck H', r_put H' hl, ro_s49 H' (show i < 6 by omega), rwD_stD, li1, ni_add, hpI_rwD, hpD_rwD_ne (show m + 45 ≠ m + 47 by omega) , hpD_rwD_ne (show m + 50 ≠ m + 47 by omega)]
    rw [← rowU_s]
    rfl
  · intro fuel
    simp only [f_X9_backward_3, if_pos (show nI n ≤ nI n from (ni_le (by omega) (by omega)).mpr (Nat.le_refl _))]
