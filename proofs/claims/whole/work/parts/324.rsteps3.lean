/-! ===== loops of any kind ===== -/
theorem loop_from {β : Type} (F : Nat → Int32 → Hp → Option β) (st : Nat → Hp) {n a : Nat} {res : Option β} (ha : a ≤ n) (hn : n < 999)
    (hstep : ∀ fuel i, a ≤ i → i < n → F (fuel + 1) (nI i) (st i) = F fuel (nI (i + 1)) (st (i + 1)))
    (hend : ∀ fuel, F (fuel + 1) (nI n) (st n) = res) : F fuelN (nI a) (st a) = res := by
  have key : ∀ (d i fuel : Nat), a ≤ i → i + d = n → d < fuel → F fuel (nI i) (st i) = res := by
    intro d
    induction d with
    | zero =>
      intro i fuel _ hi hf
      obtain ⟨fuel, rfl⟩ : ∃ j, fuel = j + 1 := ⟨fuel - 1, by omega⟩
      have : i = n := by omega
      subst this
      exact hend fuel
    | succ d ih =>
      intro i fuel h0 hi hf
      obtain ⟨fuel, rfl⟩ : ∃ j, fuel = j + 1 := ⟨fuel - 1, by omega⟩
      rw [hstep fuel i h0 (by omega)]
      exact ih (i + 1) fuel (by omega) (by omega) (by omega)
  exact key (n - a) a fuelN (Nat.le_refl _) (by omega) (by unfold fuelN; omega)
theorem stI_stI (h : Hp) (a k : Nat) (v w : Int32) : stI (stI h a k v) a k w = stI h a k w := by
  refine hp_ext rfl rfl ?_ rfl rfl
  funext b j
  simp only [hpI_stI]
  by_cases hb : b = a
  · by_cases hj : j = k <;> simp [hb, hj]
  · simp [hb]
theorem stI_self (h : Hp) (a k : Nat) : stI h a k (hpI h a k) = h := by
  refine hp_ext rfl rfl ?_ rfl rfl
  funext b j
  simp only [hpI_stI]
  by_cases hb : b = a
  · by_cases hj : j = k <;> simp [hb, hj]
  · simp [hb]
theorem hpI_stI_self (h : Hp) (a k : Nat) (v : Int32) : hpI (stI h a k v) a k = v := by simp [hpI_stI]
theorem stD_stI (h : Hp) (a k b j : Nat) (v : Int32) (w : UInt64) : stD (stI h a k v) b j w = stI (stD h b j w) a k v := rfl
theorem rwD_stI (h : Hp) (a k b : Nat) (v : Int32) (w : Nat → UInt64) : rwD (stI h a k v) b w = stI (rwD h b w) a k v := rfl
/-- the flag of wildness in one turn of a loop -/
theorem wlS_one {f : Nat → UInt64} {i : Nat} {w : Int32} (hw : w = 0 ∨ w = 1) (h1 : ¬ wlS f i w = 0) : wlS f (i + 1) w = 1 := by
  rw [wlS, if_neg (fun q => h1 q.1)]
theorem q_pair_269 {h : Hp} {m n : Nat} {v5 : UInt64} (H : RO h m) (hn : n ≤ 6) (hq : Nm (FP.ddiv v5 c72)) (hw : hpI h m 60 = 0 ∨ hpI h m 60 = 1) :
    f_X9_pair_269 fuelN (some m) (nI n) v5 0 h = some ((), stI (rwD h (m + 49) (rowU n (fun i => cn (FP.dmul (FP.ddiv v5 c72) (spe (hpD h (m + 50)) (hpD h (m + 51)) (hpD h (m + 52)) (hpD h (m + 53)) i))) (hpD h (m + 49)))) m 60 (wlS (fun i => cn (FP.dmul (FP.ddiv v5 c72) (spe (hpD h (m + 50)) (hpD h (m + 51)) (hpD h (m + 52)) (hpD h (m + 53)) i))) n (hpI h m 60))) := by
  generalize hE : (fun i => cn (FP.dmul (FP.ddiv v5 c72) (spe (hpD h (m + 50)) (hpD h (m + 51)) (hpD h (m + 52)) (hpD h (m + 53)) i))) = E
  have := loop_from (fun fuel i hh => f_X9_pair_269 fuel (some m) (nI n) v5 i hh) (fun i => stI (rwD h (m + 49) (rowU i E (hpD h (m + 49)))) m 60 (wlS E i (hpI h m 60))) (n := n) (a := 0) (res := some ((), stI (rwD h (m + 49) (rowU n E (hpD h (m + 49)))) m 60 (wlS E n (hpI h m 60)))) (by omega) (by omega) ?_ ?_
  · have e0 : stI (rwD h (m + 49) (rowU 0 E (hpD h (m + 49)))) m 60 (wlS E 0 (hpI h m 60)) = h := by rw [rowU_0, rwD_self, wlS, stI_self]
    rw [e0] at this
    exact this
  · intro fuel i _ hi
    generalize hw0 : hpI h m 60 = w0 at hw ⊢
    have H' : RO (stI (rwD h (m + 49) (rowU i E (hpD h (m + 49)))) m 60 (wlS E i w0)) m := H
    have H2 : RO (stI (rwD h (m + 49) (rowU (i + 1) E (hpD h (m + 49)))) m 60 (wlS E i w0)) m := H
    have ev : E i = cn (FP.dmul (FP.ddiv v5 c72) (spe (hpD h (m + 50)) (hpD h (m + 51)) (hpD h (m + 52)) (hpD h (m + 53)) i)) := by rw [← hE]
    simp only [f_X9_pair_269, if_neg (show ¬ nI n ≤ nI i by rw [ni_le (by omega) (by omega)]; omega), ro_g51 H', ro_g52 H', ro_g53 H', ro_g54 H', ro_g55 H', Option.bind_some, fop_ok hq, ro_a52 H' (show i < 6 by omega), ro_a53 H' (show i < 6 by omega), ro_a54 H' (show i < 6 by omega), ro_a55 H' (show i < 6 by omega), r_times, r_plus, r_less, bnd_some, ro_s51 H' (show i < 6 by omega), hpD_stI, hpD_rwD_ne (show m + 50 ≠ m + 49 by omega), hpD_rwD_ne (show m + 51 ≠ m + 49 by omega), hpD_rwD_ne (show m + 52 ≠ m + 49 by omega), hpD_rwD_ne (show m + 53 ≠ m + 49 by omega)]
    have ex : stD (stI (rwD h (m + 49) (rowU i E (hpD h (m + 49)))) m 60 (wlS E i w0)) (m + 49) i (E i) = stI (rwD h (m + 49) (rowU (i + 1) E (hpD h (m + 49)))) m 60 (wlS E i w0) := by rw [stD_stI, rwD_stD, rowU_s]
    rw [show cn (FP.dmul (FP.ddiv v5 4634766966517661696) (cn (FP.dsub (cn (FP.dsub (cn (FP.dadd (cn (FP.dmul 4618441417868443648 (hpD h (m + 51) i))) (cn (FP.dmul 4620693217682128896 (hpD h (m + 52) i))))) (cn (FP.dmul 4617315517961601024 (hpD h (m + 50) i))))) (cn (FP.dmul 4621256167635550208 (hpD h (m + 53) i)))))) = E i from ev.symm, ex]
    simp only [ro_gi H2, Option.bind_some, hpI_stI_self, ro_g51 H2, ro_a51 H2 (show i < 6 by omega), hpD_stI, hpD_rwD_self, rowU_lt (show i < i + 1 by omega)]
    rcases wlS_01 (f := E) hw i with z | z
    · by_cases fi : Fn (E i)
      · have e2 : wlS E (i + 1) w0 = 0 := by rw [wlS, if_pos ⟨z, fi⟩]
        rw [if_neg (by rw [z]; simp), r_isFin1 fi, bnd_some, if_pos (by decide), f_X9_pair_378, ro_pz H2 (Or.inl rfl), Option.bind_some, stI_stI, e2, li1, ni_add]
      · have e2 : wlS E (i + 1) w0 = 1 := by rw [wlS, if_neg (fun q => fi q.2)]
        rw [if_neg (by rw [z]; simp), r_isFin0 fi, bnd_some, if_neg (by simp), f_X9_pair_373, f_X9_pair_378, ro_pz H2 (Or.inr rfl), Option.bind_some, stI_stI, e2, li1, ni_add]
    · have e2 : wlS E (i + 1) w0 = 1 := by rw [wlS, if_neg (fun q => by rw [z] at q; exact absurd q.1 (by decide))]
      rw [if_pos (by rw [z]; decide), f_X9_pair_373, f_X9_pair_378, ro_pz H2 (Or.inr rfl), Option.bind_some, stI_stI, e2, li1, ni_add]
  · intro fuel
    simp only [f_X9_pair_269, if_pos (show nI n ≤ nI n from (ni_le (by omega) (by omega)).mpr (Nat.le_refl _))]
theorem r_pair {h : Hp} {m l n ns N : Nat} {t hh : UInt64} (X : SX h m l n ns N) (ft : Nm t) (fh : HB hh) (hk1 : ∀ i, i < n → hpD h (m + 50) i = fR h m l N t (hpD h (m + 45)) i) (hw : hpI h m 60 = 0 ∨ hpI h m 60 = 1) :
    ∃ h', f_X9_pair m (nI l) (nI n) t hh h = some ((), h') ∧ Scr h h' m ∧ hpD h' (m + 50) = hpD h (m + 50) ∧ (∀ i, i < n → hpD h' (m + 51) i = kA (fR h m l N) (hpI h (m + 2) l) t hh (hpD h (m + 45)) i) ∧ (∀ i, i < n → hpD h' (m + 52) i = k3P (fR h m l N) (hpI h (m + 2) l) t hh (hpD h (m + 45)) i) ∧ (∀ i, i < n → hpD h' (m + 53) i = k4P (fR h m l N) (hpI h (m + 2) l) t hh (hpD h (m + 45)) i) ∧ (∀ i, i < n → hpD h' (m + 47) i = zP (fR h m l N) (hpI h (m + 2) l) t hh (hpD h (m + 45)) i) ∧ (∀ i, i < n → hpD h' (m + 49) i = eP (fR h m l N) (hpI h (m + 2) l) t hh (hpD h (m + 45)) i) ∧ hpI h' m 60 = wlS (eP (fR h m l N) (hpI h (m + 2) l) t hh (hpD h (m + 45))) n (wlS (k4P (fR h m l N) (hpI h (m + 2) l) t hh (hpD h (m + 45))) n (wlS (k3P (fR h m l N) (hpI h (m + 2) l) t hh (hpD h (m + 45))) n (wlS (kA (fR h m l N) (hpI h (m + 2) l) t hh (hpD h (m + 45))) n (hpI h m 60)))) ∧ hpI h' m 61 = hpI h m 61 := by
  have hl := X.2.1.1
  have hn := X.2.1.2.2.2.1
  have ng := div_nm fh.fn ky_c2 (by omega)
  have n9 := div_nm fh.fn ky_c9 (by omega)
  have n72 := div_nm fh.fn ky_c72 (by omega)
  have n3 : Nm (FP.dmul c3 hh) := mul_nm (by show (ky c3).natAbs < _; rw [ky_c3]; decide) fh.fn
  have nd : Nm (dP hh) := div_nm' n3 ky_c4 (by omega)
  unfold f_X9_pair
  rw [fop_ok ng, Option.bind_some, fop_ok n3, Option.bind_some, fop_ok nd, Option.bind_some, q_pair_23 X.1 hl hn]
  dsimp only
  obtain ⟨h2, e2, S2, k2, y2, o2, v2, b2, u2⟩ := st_stage (t := FP.dadd t (FP.ddiv hh c2)) (w := FP.ddiv hh c2) (dst := m + 46) (out := m + 51) X (Scr.refl h m) (Or.inl rfl) (by omega) (add_nm2 ft (fn_half fh)) hk1 hw
  have H1 := X.1.rwD (m + 46) (rowU n (mvV (hpI h (m + 2) l) (hpD h (m + 45)) (FP.ddiv hh c2) (hpD h (m + 50))) (hpD h (m + 46)))
  rw [fop_ok (add_nm2 ft (fn_half fh)), Option.bind_some, ro_g48 H1, Option.bind_some, ro_g53 H1, Option.bind_some, ro_ck H1, Option.bind_some, e2, bnd_some, q_pair_91 (scr_RO S2 X.1) hl hn]
  dsimp only
  have k1' : ∀ i, i < n → hpD h2 (m + 50) i = fR h m l N t (hpD h (m + 45)) i := fun i hi => by rw [o2 _ (by omega) (by omega) (by omega)]; exact hk1 i hi
  obtain ⟨h3, e3, S3, k3, y3, o3, v3, b3, u3⟩ := st_stage (t := FP.dadd t (dP hh)) (w := dP hh) (dst := m + 46) (out := m + 52) (k := hpD h2 (m + 51)) X S2 (Or.inl rfl) (by omega) (add_nm2 ft (fn_dP fh)) k2 b2
  have H2 := (scr_RO S2 X.1).rwD (m + 46) (rowU n (mvV (hpI h2 (m + 2) l) (hpD h2 (m + 45)) (dP hh) (hpD h2 (m + 51))) (hpD h2 (m + 46)))
  rw [fop_ok (add_nm2 ft (fn_dP fh)), Option.bind_some, ro_g48 H2, Option.bind_some, ro_g54 H2, Option.bind_some, ro_ck H2, Option.bind_some, e3, bnd_some, q_pair_159 (scr_RO S3 X.1) hl hn n9]
  dsimp only
  have w1 : ∀ i, i < n → hpD h3 (m + 50) i = hpD h2 (m + 50) i := fun i hi => by rw [o3 _ (by omega) (by omega) (by omega)]
  have w2 : ∀ i, i < n → hpD h3 (m + 51) i = hpD h2 (m + 51) i := fun i hi => by rw [o3 _ (by omega) (by omega) (by omega)]
  obtain ⟨h4, e4, S4, k4, y4, o4, v4, b4, u4⟩ := st_stage (t := FP.dadd t hh) (w := FP.ddiv hh c9) (dst := m + 47) (out := m + 53) (k := spz (hpD h3 (m + 50)) (hpD h3 (m + 51)) (hpD h3 (m + 52))) X S3 (Or.inr rfl) (by omega) (add_nm2 ft fh.fn) (fun i hi => spz_congr ((w1 i hi).trans (k1' i hi)) ((w2 i hi).trans (k2 i hi)) (k3 i hi)) b3
  have H3 := (scr_RO S3 X.1).rwD (m + 47) (rowU n (mvV (hpI h3 (m + 2) l) (hpD h3 (m + 45)) (FP.ddiv hh c9) (spz (hpD h3 (m + 50)) (hpD h3 (m + 51)) (hpD h3 (m + 52)))) (hpD h3 (m + 47)))
  rw [fop_ok (add_nm2 ft fh.fn), Option.bind_some, ro_g49 H3, Option.bind_some, ro_g55 H3, Option.bind_some, ro_ck H3, Option.bind_some, e4, bnd_some, q_pair_269 (scr_RO S4 X.1) hn n72 b4]
  have z1 : ∀ i, i < n → hpD h4 (m + 50) i = hpD h2 (m + 50) i := fun i hi => by rw [o4 _ (by omega) (by omega) (by omega), o3 _ (by omega) (by omega) (by omega)]
  have z2 : ∀ i, i < n → hpD h4 (m + 51) i = hpD h2 (m + 51) i := fun i hi => by rw [o4 _ (by omega) (by omega) (by omega), o3 _ (by omega) (by omega) (by omega)]
  have z3 : ∀ i, i < n → hpD h4 (m + 52) i = hpD h3 (m + 52) i := fun i hi => by rw [o4 _ (by omega) (by omega) (by omega)]
  have ze : ∀ i, i < n → (fun i => cn (FP.dmul (FP.ddiv hh c72) (spe (hpD h4 (m + 50)) (hpD h4 (m + 51)) (hpD h4 (m + 52)) (hpD h4 (m + 53)) i))) i = eP (fR h m l N) (hpI h (m + 2) l) t hh (hpD h (m + 45)) i := fun i hi => by
    show cn (FP.dmul (FP.ddiv hh c72) (spe _ _ _ _ i)) = cn (FP.dmul (FP.ddiv hh c72) (spe _ _ _ _ i))
    rw [spe_congr ((z1 i hi).trans (k1' i hi)) ((z2 i hi).trans (k2 i hi)) ((z3 i hi).trans (k3 i hi)) (k4 i hi)]
    rfl
  refine ⟨_, rfl, (S4.rwD (m + 49) _ (by omega)).stI 60 _ (Or.inl rfl), ?_, fun i hi => ?_, fun i hi => ?_, fun i hi => ?_, fun i hi => ?_, fun i hi => ?_, ?_, ?_⟩
  · rw [hpD_stI, hpD_rwD_ne (by omega), o4 _ (by omega) (by omega) (by omega), o3 _ (by omega) (by omega) (by omega), o2 _ (by omega) (by omega) (by omega)]
  · rw [hpD_stI, hpD_rwD_ne (by omega), z2 i hi, k2 i hi]; rfl
  · rw [hpD_stI, hpD_rwD_ne (by omega), z3 i hi, k3 i hi]; rfl
  · rw [hpD_stI, hpD_rwD_ne (by omega), k4 i hi]; rfl
  · rw [hpD_stI, hpD_rwD_ne (by omega), y4 i hi]; rfl
  · rw [hpD_stI, hpD_rwD_self, rowU_lt hi]; exact ze i hi
  · rw [hpI_stI_self, wlS_congr ze, v4, v3, v2]; rfl
  · rw [hpI_stI, if_pos rfl, if_neg (by decide), hpI_rwD, u4, u3, u2]
