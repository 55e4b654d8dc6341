/-! ===== the class's laws ===== -/
/-- a law's object: its rows lie behind it -/
def LO (h : Hp) (L k sg n : Nat) : Prop := hpK h L = some (1, 0) ∧ hpR h L 3 = some sg ∧ hpR h L 4 = some k ∧ hpR h L 5 = some (L + 1) ∧ hpR h L 6 = some (L + 2) ∧ hpR h L 7 = some (L + 3) ∧ hpR h L 8 = some (L + 4) ∧ hpR h L 9 = some (L + 5) ∧ hpR h L 11 = some (L + 9) ∧ hpR h L 13 = some (L + 6) ∧ hpK h (L + 1) = some (11, 48) ∧ hpK h (L + 2) = some (11, 48) ∧ hpK h (L + 3) = some (11, 48) ∧ hpK h (L + 4) = some (11, 48) ∧ hpK h (L + 5) = some (10, 48) ∧ RW h (L + 6) 48 ∧ hpK h (L + 9) = some (11, n)
theorem lo_ck {h : Hp} {L k sg n : Nat} (H : LO h L k sg n) : ab_ck h (some L) (1, 0) = some L := ck_ok H.1
theorem lo_g3 {h : Hp} {L k sg n : Nat} (H : LO h L k sg n) : getR h (some L) 1 3 = some (some sg) := by rw [getR_ok H.1, H.2.1]
theorem lo_g4 {h : Hp} {L k sg n : Nat} (H : LO h L k sg n) : getR h (some L) 1 4 = some (some k) := by rw [getR_ok H.1, H.2.2.1]
theorem lo_g5 {h : Hp} {L k sg n : Nat} (H : LO h L k sg n) : getR h (some L) 1 5 = some (some (L + 1)) := by rw [getR_ok H.1, H.2.2.2.1]
theorem lo_g6 {h : Hp} {L k sg n : Nat} (H : LO h L k sg n) : getR h (some L) 1 6 = some (some (L + 2)) := by rw [getR_ok H.1, H.2.2.2.2.1]
theorem lo_g7 {h : Hp} {L k sg n : Nat} (H : LO h L k sg n) : getR h (some L) 1 7 = some (some (L + 3)) := by rw [getR_ok H.1, H.2.2.2.2.2.1]
theorem lo_g8 {h : Hp} {L k sg n : Nat} (H : LO h L k sg n) : getR h (some L) 1 8 = some (some (L + 4)) := by rw [getR_ok H.1, H.2.2.2.2.2.2.1]
theorem lo_g9 {h : Hp} {L k sg n : Nat} (H : LO h L k sg n) : getR h (some L) 1 9 = some (some (L + 5)) := by rw [getR_ok H.1, H.2.2.2.2.2.2.2.1]
theorem lo_g11 {h : Hp} {L k sg n : Nat} (H : LO h L k sg n) : getR h (some L) 1 11 = some (some (L + 9)) := by rw [getR_ok H.1, H.2.2.2.2.2.2.2.2.1]
theorem lo_g13 {h : Hp} {L k sg n : Nat} (H : LO h L k sg n) : getR h (some L) 1 13 = some (some (L + 6)) := by rw [getR_ok H.1, H.2.2.2.2.2.2.2.2.2.1]
theorem lo_gi {h : Hp} {L k sg n j : Nat} (H : LO h L k sg n) : getI h (some L) 1 j = some (hpI h L j) := getI_ok H.1
theorem lo_a5 {h : Hp} {L k sg n i : Nat} (H : LO h L k sg n) (hi : i < 48) : aldI h (some (L + 1)) 11 (nI i) = some (hpI h (L + 1) i) := by rw [aldI_ok H.2.2.2.2.2.2.2.2.2.2.1 (ni_in hi (by omega)), ni_cl (by omega)]
theorem lo_a6 {h : Hp} {L k sg n i : Nat} (H : LO h L k sg n) (hi : i < 48) : aldI h (some (L + 2)) 11 (nI i) = some (hpI h (L + 2) i) := by rw [aldI_ok H.2.2.2.2.2.2.2.2.2.2.2.1 (ni_in hi (by omega)), ni_cl (by omega)]
theorem lo_a7 {h : Hp} {L k sg n i : Nat} (H : LO h L k sg n) (hi : i < 48) : aldI h (some (L + 3)) 11 (nI i) = some (hpI h (L + 3) i) := by rw [aldI_ok H.2.2.2.2.2.2.2.2.2.2.2.2.1 (ni_in hi (by omega)), ni_cl (by omega)]
theorem lo_a8 {h : Hp} {L k sg n i : Nat} (H : LO h L k sg n) (hi : i < 48) : aldI h (some (L + 4)) 11 (nI i) = some (hpI h (L + 4) i) := by rw [aldI_ok H.2.2.2.2.2.2.2.2.2.2.2.2.2.1 (ni_in hi (by omega)), ni_cl (by omega)]
theorem lo_a9 {h : Hp} {L k sg n i : Nat} (H : LO h L k sg n) (hi : i < 48) : aldD h (some (L + 5)) (nI i) = some (hpD h (L + 5) i) := by rw [aldD_ok H.2.2.2.2.2.2.2.2.2.2.2.2.2.2.1 (ni_in hi (by omega)), ni_cl (by omega)]
theorem lo_rw {h : Hp} {L k sg n : Nat} (H : LO h L k sg n) : RW h (L + 6) 48 := H.2.2.2.2.2.2.2.2.2.2.2.2.2.2.2.1
theorem lo_a11 {h : Hp} {L k sg n i : Nat} (H : LO h L k sg n) (hi : i < n) (hn : n ≤ 6) : aldI h (some (L + 9)) 11 (nI i) = some (hpI h (L + 9) i) := by rw [aldI_ok H.2.2.2.2.2.2.2.2.2.2.2.2.2.2.2.2 (ni_in hi (by omega)), ni_cl (by omega)]
/-- the class's signals tell what the reference's do -/
def SGc (h : Hp) (m sg ns : Nat) : Prop := hpK h sg = some (16, 8) ∧ ∀ s, s < ns → ∃ S p, hpR h sg s = some S ∧ SO h S ∧ p ≤ 16 ∧ hpI h S 3 = nI p ∧ hpI h (m + 11) s = nI p ∧ hpI h S 0 = hpI h (m + 10) s ∧ (∀ j, j < p → hpD h (S + 1) j = hpD h (m + 12) (16 * s + j) ∧ hpD h (S + 2) j = hpD h (m + 13) (16 * s + j)) ∧ StOK p (fun j => hpD h (m + 12) (16 * s + j)) (fun j => hpD h (m + 13) (16 * s + j))
/-- the class's law tells what the reference's does -/
def LR (h : Hp) (m l L n N : Nat) : Prop := hpI h L 0 = nI l ∧ hpI h L 1 = nI n ∧ hpI h L 2 = hpI h (m + 2) l ∧ hpI h L 10 = nI N ∧ (∀ q, q < N → hpI h (L + 1) q = hpI h (m + 5) (48 * l + q) ∧ hpI h (L + 2) q = hpI h (m + 6) (48 * l + q) ∧ hpI h (L + 3) q = hpI h (m + 7) (48 * l + q) ∧ hpI h (L + 4) q = hpI h (m + 8) (48 * l + q) ∧ hpD h (L + 5) q = hpD h (m + 9) (48 * l + q) ∧ Nm (hpD h (m + 9) (48 * l + q))) ∧ (∀ i, i < n → hpI h (L + 9) i = hpI h (m + 4) (6 * l + i))
theorem ev_dneg {f : Int32} {x X : UInt64} (e : Ev f x X) : Ev f (FP.dneg x) (cn (FP.dneg X)) := by
  rcases e with ⟨rfl, rfl, q⟩ | ⟨rfl, q, rfl⟩
  · rw [cn_nm (nm_dneg.mpr q)]; exact Or.inl ⟨rfl, rfl, nm_dneg.mpr q⟩
  · rw [cn_no (fun z => nm_nanV (nm_dneg.mp z))]; exact Or.inr ⟨rfl, nm_dneg.mpr q, rfl⟩
theorem ev_mk {f : Int32} {x X : UInt64} (e : Ev f x X) : Ev f (mk x) (mk X) := by
  rcases e with ⟨rfl, rfl, q⟩ | ⟨rfl, q, rfl⟩
  · exact Or.inl ⟨rfl, rfl, nm_mk.mpr q⟩
  · rw [mk_nanV]; exact Or.inr ⟨rfl, nm_mk.mpr q, rfl⟩
theorem ls_or (a b : UInt64) : lsV a b = a ∨ lsV a b = b := by
  unfold lsV
  split
  · split
    · split
      · exact Or.inl rfl
      · split
        · exact Or.inr rfl
        · split
          · exact Or.inl rfl
          · exact Or.inr rfl
    · exact Or.inr rfl
  · exact Or.inl rfl
theorem gs_or (a b : UInt64) : gsV a b = a ∨ gsV a b = b := by
  unfold gsV
  split
  · split
    · split
      · exact Or.inr rfl
      · split
        · exact Or.inl rfl
        · split
          · exact Or.inr rfl
          · exact Or.inl rfl
    · exact Or.inr rfl
  · exact Or.inl rfl
theorem ls_nan1 (b : UInt64) : lsV nanV b = nanV := by unfold lsV; rw [if_neg (show ¬ (ky nanV).natAbs ≤ 9218868437227405312 from nm_nanV)]
theorem gs_nan1 (b : UInt64) : gsV nanV b = nanV := by unfold gsV; rw [if_neg (show ¬ (ky nanV).natAbs ≤ 9218868437227405312 from nm_nanV)]
theorem ls_nan2 {a : UInt64} (h : Cv a) : lsV a nanV = nanV := by
  rcases h with h | rfl
  · unfold lsV; rw [if_pos (show (ky a).natAbs ≤ 9218868437227405312 from h), if_neg (show ¬ (ky nanV).natAbs ≤ 9218868437227405312 from nm_nanV)]
  · exact ls_nan1 _
theorem gs_nan2 {a : UInt64} (h : Cv a) : gsV a nanV = nanV := by
  rcases h with h | rfl
  · unfold gsV; rw [if_pos (show (ky a).natAbs ≤ 9218868437227405312 from h), if_neg (show ¬ (ky nanV).natAbs ≤ 9218868437227405312 from nm_nanV)]
  · exact gs_nan1 _
theorem ev2_pick {op : UInt64 → UInt64 → UInt64} (h1 : ∀ b, op nanV b = nanV) (h2 : ∀ a, Cv a → op a nanV = nanV) (h3 : ∀ a b, op a b = a ∨ op a b = b) {f : Int32} {x X y Y : UInt64} (e : Ev2 f x X y Y) (cX : Cv X) : Ev f (op x y) (op X Y) := by
  obtain ⟨nx, ny, e⟩ := e
  have nr : Nm (op x y) := by rcases h3 x y with z | z <;> rw [z]; exact nx; exact ny
  rcases e with ⟨rfl, rfl, rfl⟩ | ⟨rfl, e⟩
  · exact Or.inl ⟨rfl, rfl, nr⟩
  · refine Or.inr ⟨rfl, nr, ?_⟩
    rcases e with rfl | rfl
    · exact h1 _
    · exact h2 _ cX
theorem pw_nan {b : Nat} (h : b ≠ 0) : pwV nanV b = nanV := by
  obtain ⟨b, rfl⟩ : ∃ c, b = c + 1 := ⟨b - 1, by omega⟩
  rw [pwV, cn_no (fun z => nm_nanV (dmul_nm.mp z).2.1)]
theorem ev_pw {f : Int32} {x X : UInt64} {b : Nat} (hb : b ≠ 0) (e : Ev f x X) : Ev f (pwV x b) (pwV X b) := by
  rcases e with ⟨rfl, rfl, q⟩ | ⟨rfl, q, rfl⟩
  · exact Or.inl ⟨rfl, rfl, (pw_ok q b).1⟩
  · rw [pw_nan hb]; exact Or.inr ⟨rfl, (pw_ok q b).1, rfl⟩
theorem ev_sg {p : Nat} {how : Int32} {tm vl : Nat → UInt64} {f : Int32} {x X : UInt64} (hp : p ≠ 0) (nr : Nm (sgV p how tm vl x)) (e : Ev f x X) : Ev f (sgV p how tm vl x) (sgV p how tm vl X) := by
  rcases e with ⟨rfl, rfl, q⟩ | ⟨rfl, q, rfl⟩
  · exact Or.inl ⟨rfl, rfl, nr⟩
  · refine Or.inr ⟨rfl, nr, ?_⟩
    unfold sgV
    rw [if_neg hp, if_neg (show ¬ (ky nanV).natAbs ≤ 9218868437227405312 from nm_nanV)]
