/-! ===== the reference's steps, a row and its rates at a time ===== -/
theorem st_stage {h0 h : Hp} {m l n ns N dst out : Nat} {t w : UInt64} {k k' : Nat → UInt64} (X : SX h0 m l n ns N) (S : Scr h0 h m) (hd : dst = m + 46 ∨ dst = m + 47) (hout : m + 50 ≤ out ∧ out ≤ m + 53) (ht : Nm t) (hk : ∀ i, i < n → k i = k' i) (hw : hpI h m 60 = 0 ∨ hpI h m 60 = 1) :
    ∃ h', f_X9_rates m (nI l) t (some dst) (some out) (rwD h dst (rowU n (mvV (hpI h (m + 2) l) (hpD h (m + 45)) w k) (hpD h dst))) = some ((), h') ∧ Scr h0 h' m ∧ (∀ i, i < n → hpD h' out i = fR h0 m l N t (mvV (hpI h0 (m + 2) l) (hpD h0 (m + 45)) w k') i) ∧ (∀ i, i < n → hpD h' dst i = mvV (hpI h0 (m + 2) l) (hpD h0 (m + 45)) w k' i) ∧ (∀ a, a ≠ out → a ≠ m + 44 → a ≠ dst → hpD h' a = hpD h a) ∧ hpI h' m 60 = wlS (fR h0 m l N t (mvV (hpI h0 (m + 2) l) (hpD h0 (m + 45)) w k')) n (hpI h m 60) ∧ (hpI h' m 60 = 0 ∨ hpI h' m 60 = 1) ∧ hpI h' m 61 = hpI h m 61 := by
  obtain ⟨S1, y1⟩ := st_row (h0 := h0) (l := l) (dst := dst) (w := w) S (by omega) hk (hpD h dst)
  generalize e1 : rwD h dst _ = h1 at S1 y1 ⊢
  have d1 : ∀ a, a ≠ dst → hpD h1 a = hpD h a := fun a ha => by rw [← e1, hpD_rwD_ne ha]
  have w1 : hpI h1 m = hpI h m := by rw [← e1]; rfl
  obtain ⟨h2, e2, S2, k2, o2, v2, b2, u2⟩ := st_rates (t := t) (st := dst) (out := out) X S1 (by omega) (by omega) ht y1 (fun j _ => cv_mvV _ _ _ _ _) (by rw [w1]; exact hw)
  refine ⟨h2, e2, S2, k2, fun i hi => ?_, fun a h1 h2 h3 => by rw [o2 a h1 h2, d1 a h3], by rw [v2, w1], b2, by rw [u2, w1]⟩
  rw [o2 dst (by omega) (by omega)]
  exact y1 i hi
theorem s3a_congr {a b a' b' : Nat → UInt64} {i : Nat} (h1 : a i = a' i) (h2 : b i = b' i) : s3a a b i = s3a a' b' i := by unfold s3a; rw [h1, h2]
theorem s3b_congr {a b c a' b' c' : Nat → UInt64} {i : Nat} (h1 : a i = a' i) (h2 : b i = b' i) (h3 : c i = c' i) : s3b a b c i = s3b a' b' c' i := by unfold s3b; rw [h1, h2, h3]
theorem s4_congr {a b c d a' b' c' d' : Nat → UInt64} {i : Nat} (h1 : a i = a' i) (h2 : b i = b' i) (h3 : c i = c' i) (h4 : d i = d' i) : s4 a b c d i = s4 a' b' c' d' i := by unfold s4; rw [h1, h2, h3, h4]
theorem spz_congr {a b c a' b' c' : Nat → UInt64} {i : Nat} (h1 : a i = a' i) (h2 : b i = b' i) (h3 : c i = c' i) : spz a b c i = spz a' b' c' i := by unfold spz; rw [h1, h2, h3]
theorem spe_congr {a b c d a' b' c' d' : Nat → UInt64} {i : Nat} (h1 : a i = a' i) (h2 : b i = b' i) (h3 : c i = c' i) (h4 : d i = d' i) : spe a b c d i = spe a' b' c' d' i := by unfold spe; rw [h1, h2, h3, h4]
theorem r_third {h : Hp} {m l n ns N : Nat} {t hh : UInt64} (X : SX h m l n ns N) (ft : Nm t) (fh : HB hh) (hk1 : ∀ i, i < n → hpD h (m + 50) i = fR h m l N t (hpD h (m + 45)) i) (hw : hpI h m 60 = 0 ∨ hpI h m 60 = 1) :
    ∃ h', f_X9_third m (nI l) (nI n) t hh h = some ((), h') ∧ Scr h h' m ∧ hpD h' (m + 50) = hpD h (m + 50) ∧ (∀ i, i < n → hpD h' (m + 51) i = kA (fR h m l N) (hpI h (m + 2) l) t hh (hpD h (m + 45)) i) ∧ (∀ i, i < n → hpD h' (m + 52) i = k3T (fR h m l N) (hpI h (m + 2) l) t hh (hpD h (m + 45)) i) ∧ (∀ i, i < n → hpD h' (m + 47) i = zT (fR h m l N) (hpI h (m + 2) l) t hh (hpD h (m + 45)) i) ∧ hpI h' m 60 = wlS (k3T (fR h m l N) (hpI h (m + 2) l) t hh (hpD h (m + 45))) n (wlS (kA (fR h m l N) (hpI h (m + 2) l) t hh (hpD h (m + 45))) n (hpI h m 60)) ∧ hpI h' m 61 = hpI h m 61 := by
  have hl := X.2.1.1
  have hn := X.2.1.2.2.2.1
  have ng := div_nm fh.fn ky_c2 (by omega)
  have n6 := div_nm fh.fn ky_c6 (by omega)
  unfold f_X9_third
  rw [fop_ok ng, Option.bind_some, q_third_11 X.1 hl hn]
  dsimp only
  obtain ⟨h2, e2, S2, k2, y2, o2, v2, b2, u2⟩ := st_stage (t := FP.dadd t (FP.ddiv hh c2)) (w := FP.ddiv hh c2) (dst := m + 46) (out := m + 51) X (Scr.refl h m) (Or.inl rfl) (by omega) (add_nm2 ft (fn_half fh)) hk1 hw
  have H1 := X.1.rwD (m + 46) (rowU n (mvV (hpI h (m + 2) l) (hpD h (m + 45)) (FP.ddiv hh c2) (hpD h (m + 50))) (hpD h (m + 46)))
  rw [fop_ok (add_nm2 ft (fn_half fh)), Option.bind_some, ro_g48 H1, Option.bind_some, ro_g53 H1, Option.bind_some, ro_ck H1, Option.bind_some, e2, bnd_some, q_third_79 (scr_RO S2 X.1) hl hn]
  dsimp only
  have k1' : ∀ i, i < n → hpD h2 (m + 50) i = fR h m l N t (hpD h (m + 45)) i := fun i hi => by rw [o2 _ (by omega) (by omega) (by omega)]; exact hk1 i hi
  obtain ⟨h3, e3, S3, k3, y3, o3, v3, b3, u3⟩ := st_stage (t := FP.dadd t hh) (w := hh) (dst := m + 46) (out := m + 52) (k := s3a (hpD h2 (m + 50)) (hpD h2 (m + 51))) X S2 (Or.inl rfl) (by omega) (add_nm2 ft fh.fn) (fun i hi => s3a_congr (k1' i hi) (k2 i hi)) b2
  have H2 := (scr_RO S2 X.1).rwD (m + 46) (rowU n (mvV (hpI h2 (m + 2) l) (hpD h2 (m + 45)) hh (s3a (hpD h2 (m + 50)) (hpD h2 (m + 51)))) (hpD h2 (m + 46)))
  rw [fop_ok (add_nm2 ft fh.fn), Option.bind_some, ro_g48 H2, Option.bind_some, ro_g54 H2, Option.bind_some, ro_ck H2, Option.bind_some, e3, bnd_some, q_third_163 (scr_RO S3 X.1) hl hn n6]
  dsimp only
  have k1'' : ∀ i, i < n → hpD h3 (m + 50) i = hpD h2 (m + 50) i := fun i hi => by rw [o3 _ (by omega) (by omega) (by omega)]
  have k2'' : ∀ i, i < n → hpD h3 (m + 51) i = hpD h2 (m + 51) i := fun i hi => by rw [o3 _ (by omega) (by omega) (by omega)]
  obtain ⟨S4, y4⟩ := st_row (h0 := h) (l := l) (n := n) (dst := m + 47) (w := FP.ddiv hh c6) (k := s3b (hpD h3 (m + 50)) (hpD h3 (m + 51)) (hpD h3 (m + 52))) S3 (by omega) (fun i hi => s3b_congr ((k1'' i hi).trans (k1' i hi)) ((k2'' i hi).trans (k2 i hi)) (k3 i hi)) (hpD h3 (m + 47))
  refine ⟨_, rfl, S4, ?_, fun i hi => ?_, fun i hi => ?_, y4, ?_, ?_⟩
  · rw [hpD_rwD_ne (by omega), o3 _ (by omega) (by omega) (by omega), o2 _ (by omega) (by omega) (by omega)]
  · rw [hpD_rwD_ne (by omega), k2'' i hi, k2 i hi]; rfl
  · rw [hpD_rwD_ne (by omega), k3 i hi]; rfl
  · rw [hpI_rwD, v3, v2]; rfl
  · rw [hpI_rwD, u3, u2]
theorem r_fourth {h : Hp} {m l n ns N : Nat} {t hh : UInt64} (X : SX h m l n ns N) (ft : Nm t) (fh : HB hh) (hk1 : ∀ i, i < n → hpD h (m + 50) i = fR h m l N t (hpD h (m + 45)) i) (hw : hpI h m 60 = 0 ∨ hpI h m 60 = 1) :
    ∃ h', f_X9_fourth m (nI l) (nI n) t hh h = some ((), h') ∧ Scr h h' m ∧ hpD h' (m + 50) = hpD h (m + 50) ∧ (∀ i, i < n → hpD h' (m + 51) i = kA (fR h m l N) (hpI h (m + 2) l) t hh (hpD h (m + 45)) i) ∧ (∀ i, i < n → hpD h' (m + 52) i = k3F (fR h m l N) (hpI h (m + 2) l) t hh (hpD h (m + 45)) i) ∧ (∀ i, i < n → hpD h' (m + 53) i = k4F (fR h m l N) (hpI h (m + 2) l) t hh (hpD h (m + 45)) i) ∧ (∀ i, i < n → hpD h' (m + 47) i = zF (fR h m l N) (hpI h (m + 2) l) t hh (hpD h (m + 45)) i) ∧ hpI h' m 60 = wlS (k4F (fR h m l N) (hpI h (m + 2) l) t hh (hpD h (m + 45))) n (wlS (k3F (fR h m l N) (hpI h (m + 2) l) t hh (hpD h (m + 45))) n (wlS (kA (fR h m l N) (hpI h (m + 2) l) t hh (hpD h (m + 45))) n (hpI h m 60))) ∧ hpI h' m 61 = hpI h m 61 := by
  have hl := X.2.1.1
  have hn := X.2.1.2.2.2.1
  have ng := div_nm fh.fn ky_c2 (by omega)
  have n6 := div_nm fh.fn ky_c6 (by omega)
  unfold f_X9_fourth
  rw [fop_ok ng, Option.bind_some, q_fourth_11 X.1 hl hn]
  dsimp only
  obtain ⟨h2, e2, S2, k2, y2, o2, v2, b2, u2⟩ := st_stage (t := FP.dadd t (FP.ddiv hh c2)) (w := FP.ddiv hh c2) (dst := m + 46) (out := m + 51) X (Scr.refl h m) (Or.inl rfl) (by omega) (add_nm2 ft (fn_half fh)) hk1 hw
  have H1 := X.1.rwD (m + 46) (rowU n (mvV (hpI h (m + 2) l) (hpD h (m + 45)) (FP.ddiv hh c2) (hpD h (m + 50))) (hpD h (m + 46)))
  rw [fop_ok (add_nm2 ft (fn_half fh)), Option.bind_some, ro_g48 H1, Option.bind_some, ro_g53 H1, Option.bind_some, ro_ck H1, Option.bind_some, e2, bnd_some, q_fourth_79 (scr_RO S2 X.1) hl hn]
  dsimp only
  have k1' : ∀ i, i < n → hpD h2 (m + 50) i = fR h m l N t (hpD h (m + 45)) i := fun i hi => by rw [o2 _ (by omega) (by omega) (by omega)]; exact hk1 i hi
  obtain ⟨h3, e3, S3, k3, y3, o3, v3, b3, u3⟩ := st_stage (t := FP.dadd t (FP.ddiv hh c2)) (w := FP.ddiv hh c2) (dst := m + 46) (out := m + 52) (k := hpD h2 (m + 51)) X S2 (Or.inl rfl) (by omega) (add_nm2 ft (fn_half fh)) k2 b2
  have H2 := (scr_RO S2 X.1).rwD (m + 46) (rowU n (mvV (hpI h2 (m + 2) l) (hpD h2 (m + 45)) (FP.ddiv hh c2) (hpD h2 (m + 51))) (hpD h2 (m + 46)))
  rw [fop_ok (add_nm2 ft (fn_half fh)), Option.bind_some, ro_g48 H2, Option.bind_some, ro_g54 H2, Option.bind_some, ro_ck H2, Option.bind_some, e3, bnd_some, q_fourth_147 (scr_RO S3 X.1) hl hn]
  dsimp only
  obtain ⟨h4, e4, S4, k4, y4, o4, v4, b4, u4⟩ := st_stage (t := FP.dadd t hh) (w := hh) (dst := m + 46) (out := m + 53) (k := hpD h3 (m + 52)) X S3 (Or.inl rfl) (by omega) (add_nm2 ft fh.fn) k3 b3
  have H3 := (scr_RO S3 X.1).rwD (m + 46) (rowU n (mvV (hpI h3 (m + 2) l) (hpD h3 (m + 45)) hh (hpD h3 (m + 52))) (hpD h3 (m + 46)))
  rw [fop_ok (add_nm2 ft fh.fn), Option.bind_some, ro_g48 H3, Option.bind_some, ro_g55 H3, Option.bind_some, ro_ck H3, Option.bind_some, e4, bnd_some, q_fourth_215 (scr_RO S4 X.1) hl hn n6]
  dsimp only
  have z1 : ∀ i, i < n → hpD h4 (m + 50) i = hpD h2 (m + 50) i := fun i hi => by rw [o4 _ (by omega) (by omega) (by omega), o3 _ (by omega) (by omega) (by omega)]
  have z2 : ∀ i, i < n → hpD h4 (m + 51) i = hpD h2 (m + 51) i := fun i hi => by rw [o4 _ (by omega) (by omega) (by omega), o3 _ (by omega) (by omega) (by omega)]
  have z3 : ∀ i, i < n → hpD h4 (m + 52) i = hpD h3 (m + 52) i := fun i hi => by rw [o4 _ (by omega) (by omega) (by omega)]
  obtain ⟨S5, y5⟩ := st_row (h0 := h) (l := l) (n := n) (dst := m + 47) (w := FP.ddiv hh c6) (k := s4 (hpD h4 (m + 50)) (hpD h4 (m + 51)) (hpD h4 (m + 52)) (hpD h4 (m + 53))) S4 (by omega) (fun i hi => s4_congr ((z1 i hi).trans (k1' i hi)) ((z2 i hi).trans (k2 i hi)) ((z3 i hi).trans (k3 i hi)) (k4 i hi)) (hpD h4 (m + 47))
  refine ⟨_, rfl, S5, ?_, fun i hi => ?_, fun i hi => ?_, fun i hi => ?_, y5, ?_, ?_⟩
  · rw [hpD_rwD_ne (by omega), o4 _ (by omega) (by omega) (by omega), o3 _ (by omega) (by omega) (by omega), o2 _ (by omega) (by omega) (by omega)]
  · rw [hpD_rwD_ne (by omega), z2 i hi, k2 i hi]; rfl
  · rw [hpD_rwD_ne (by omega), z3 i hi, k3 i hi]; rfl
  · rw [hpD_rwD_ne (by omega), k4 i hi]; rfl
  · rw [hpI_rwD, v4, v3, v2]; rfl
  · rw [hpI_rwD, u4, u3, u2]
