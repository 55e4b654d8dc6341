/-! ===== whole rows ===== -/
def rwD (h : Hp) (a : Nat) (f : Nat → UInt64) : Hp := (h.1, h.2.1, h.2.2.1, va_up h.2.2.2.1 a f, h.2.2.2.2)
def rwI (h : Hp) (a : Nat) (f : Nat → Int32) : Hp := (h.1, h.2.1, va_up h.2.2.1 a f, h.2.2.2.1, h.2.2.2.2)
theorem hpD_rwD (h : Hp) (a : Nat) (f : Nat → UInt64) (b : Nat) : hpD (rwD h a f) b = if b = a then f else hpD h b := rfl
theorem hpI_rwI (h : Hp) (a : Nat) (f : Nat → Int32) (b : Nat) : hpI (rwI h a f) b = if b = a then f else hpI h b := rfl
theorem hpD_rwD_self (h : Hp) (a : Nat) (f : Nat → UInt64) : hpD (rwD h a f) a = f := by rw [hpD_rwD, if_pos rfl]
theorem hpI_rwI_self (h : Hp) (a : Nat) (f : Nat → Int32) : hpI (rwI h a f) a = f := by rw [hpI_rwI, if_pos rfl]
theorem hpD_rwD_ne {h : Hp} {a b : Nat} {f : Nat → UInt64} (hb : b ≠ a) : hpD (rwD h a f) b = hpD h b := by rw [hpD_rwD, if_neg hb]
theorem hpI_rwI_ne {h : Hp} {a b : Nat} {f : Nat → Int32} (hb : b ≠ a) : hpI (rwI h a f) b = hpI h b := by rw [hpI_rwI, if_neg hb]
theorem hpI_rwD (h : Hp) (a : Nat) (f : Nat → UInt64) : hpI (rwD h a f) = hpI h := rfl
theorem hpD_rwI (h : Hp) (a : Nat) (f : Nat → Int32) : hpD (rwI h a f) = hpD h := rfl
theorem hpK_rwD (h : Hp) (a : Nat) (f : Nat → UInt64) : hpK (rwD h a f) = hpK h := rfl
theorem hpK_rwI (h : Hp) (a : Nat) (f : Nat → Int32) : hpK (rwI h a f) = hpK h := rfl
theorem hpR_rwD (h : Hp) (a : Nat) (f : Nat → UInt64) : hpR (rwD h a f) = hpR h := rfl
theorem hpR_rwI (h : Hp) (a : Nat) (f : Nat → Int32) : hpR (rwI h a f) = hpR h := rfl
theorem hpS_rwD (h : Hp) (a : Nat) (f : Nat → UInt64) : hpS (rwD h a f) = hpS h := rfl
theorem hpS_rwI (h : Hp) (a : Nat) (f : Nat → Int32) : hpS (rwI h a f) = hpS h := rfl
def up1 {α : Type} (f : Nat → α) (k : Nat) (v : α) : Nat → α := fun j => if j = k then v else f j
theorem up1_self {α : Type} (f : Nat → α) (k : Nat) (v : α) : up1 f k v k = v := by simp [up1]
theorem up1_ne {α : Type} {f : Nat → α} {k j : Nat} {v : α} (h : j ≠ k) : up1 f k v j = f j := by simp [up1, h]
theorem hp_ext {h h' : Hp} (e0 : hpS h = hpS h') (e1 : hpK h = hpK h') (e2 : hpI h = hpI h') (e3 : hpD h = hpD h') (e4 : hpR h = hpR h') : h = h' := by
  obtain ⟨a, b, c, d, e⟩ := h
  obtain ⟨a', b', c', d', e'⟩ := h'
  simp only [hpS, hpK, hpI, hpD, hpR] at e0 e1 e2 e3 e4
  subst e0; subst e1; subst e2; subst e3; subst e4
  rfl
theorem stD_rw (h : Hp) (a k : Nat) (v : UInt64) : stD h a k v = rwD h a (up1 (hpD h a) k v) := by
  refine hp_ext rfl rfl rfl ?_ rfl
  funext b j
  rw [hpD_stD, hpD_rwD]
  by_cases hb : b = a
  · subst hb; simp [up1]
  · simp [hb]
theorem stI_rw (h : Hp) (a k : Nat) (v : Int32) : stI h a k v = rwI h a (up1 (hpI h a) k v) := by
  refine hp_ext rfl rfl ?_ rfl rfl
  funext b j
  rw [hpI_stI, hpI_rwI]
  by_cases hb : b = a
  · subst hb; simp [up1]
  · simp [hb]
theorem rwD_rwD (h : Hp) (a : Nat) (f g : Nat → UInt64) : rwD (rwD h a f) a g = rwD h a g := by
  refine hp_ext rfl rfl rfl ?_ rfl
  funext b
  simp only [hpD_rwD]
  by_cases hb : b = a <;> simp [hb]
theorem rwI_rwI (h : Hp) (a : Nat) (f g : Nat → Int32) : rwI (rwI h a f) a g = rwI h a g := by
  refine hp_ext rfl rfl ?_ rfl rfl
  funext b
  simp only [hpI_rwI]
  by_cases hb : b = a <;> simp [hb]
theorem rwD_self (h : Hp) (a : Nat) : rwD h a (hpD h a) = h := by
  refine hp_ext rfl rfl rfl ?_ rfl
  funext b
  rw [hpD_rwD]
  by_cases hb : b = a
  · subst hb; simp
  · simp [hb]
theorem rwI_self (h : Hp) (a : Nat) : rwI h a (hpI h a) = h := by
  refine hp_ext rfl rfl ?_ rfl rfl
  funext b
  rw [hpI_rwI]
  by_cases hb : b = a
  · subst hb; simp
  · simp [hb]
theorem rwD_stD (h : Hp) (a k : Nat) (f : Nat → UInt64) (v : UInt64) : stD (rwD h a f) a k v = rwD h a (up1 f k v) := by rw [stD_rw, hpD_rwD_self, rwD_rwD]
theorem rwI_stI (h : Hp) (a k : Nat) (f : Nat → Int32) (v : Int32) : stI (rwI h a f) a k v = rwI h a (up1 f k v) := by rw [stI_rw, hpI_rwI_self, rwI_rwI]
theorem rwD_com {h : Hp} {a b : Nat} {f g : Nat → UInt64} (hab : a ≠ b) : rwD (rwD h a f) b g = rwD (rwD h b g) a f := by
  refine hp_ext rfl rfl rfl ?_ rfl
  funext c
  simp only [hpD_rwD]
  by_cases h1 : c = b
  · subst h1; simp [Ne.symm hab]
  · simp [h1]
theorem RO.rwD {h : Hp} {m : Nat} (H : RO h m) (a : Nat) (f : Nat → UInt64) : RO (rwD h a f) m := H
theorem RO.rwI {h : Hp} {m : Nat} (H : RO h m) (a : Nat) (f : Nat → Int32) : RO (rwI h a f) m := H
/-! ===== the value of a node ===== -/
/-- a value: a number, or the one not-a-number -/
def Cv (v : UInt64) : Prop := Nm v ∨ v = nanV
theorem cv_cn (v : UInt64) : Cv (cn v) := by
  by_cases h : Nm v
  · rw [cn_nm h]; exact Or.inl h
  · rw [cn_no h]; exact Or.inr rfl
theorem cv_mk {v : UInt64} (h : Cv v) : Cv (mk v) := by
  rcases h with h | rfl
  · exact Or.inl (nm_mk.mpr h)
  · rw [mk_nanV]; exact Or.inr rfl
theorem cv_pw (a : UInt64) (k : Nat) : Cv (pwV a k) := by
  cases k with
  | zero => exact Or.inl nm_1
  | succ k => exact cv_cn _
theorem cv_ls {a b : UInt64} (ha : Cv a) (hb : Cv b) : Cv (lsV a b) := by
  unfold lsV
  split
  · split
    · split
      · exact ha
      · split
        · exact hb
        · split
          · exact ha
          · exact hb
    · exact hb
  · exact ha
theorem cv_gs {a b : UInt64} (ha : Cv a) (hb : Cv b) : Cv (gsV a b) := by
  unfold gsV
  split
  · split
    · split
      · exact hb
      · split
        · exact ha
        · split
          · exact hb
          · exact ha
    · exact hb
  · exact ha
theorem cv_sgL {how : Int32} {tm vl : Nat → UInt64} {a : UInt64} {p : Nat} (hv : ∀ j, Cv (vl j)) : Cv (sgL how tm vl a p) := by
  unfold sgL
  split
  · exact hv p
  · split
    · exact hv p
    · exact cv_cn _
theorem cv_sg {n : Nat} {how : Int32} {tm vl : Nat → UInt64} {a : UInt64} (ha : Cv a) (hv : ∀ j, Cv (vl j)) : Cv (sgV n how tm vl a) := by
  unfold sgV
  split
  · exact Or.inl nm_0
  · split
    · split
      · exact hv 0
      · split
        · exact hv _
        · exact cv_sgL hv
    · exact ha
def wV (k a b c : Nat) (cst t : UInt64) (x f : Nat → UInt64) (sg : Nat → UInt64 → UInt64) : UInt64 := match k with
  | 0 => x a
  | 1 => t
  | 2 => cn (FP.dadd (f a) (f b))
  | 3 => cn (FP.dsub (f a) (f b))
  | 4 => cn (FP.dmul (f a) (f b))
  | 5 => cn (FP.ddiv (f a) (f b))
  | 6 => cn (FP.dneg (f a))
  | 7 => mk (f a)
  | 8 => lsV (f a) (f b)
  | 9 => gsV (f a) (f b)
  | 10 => if (ky (f a)).natAbs ≤ 9218868437227405312 ∧ ky (f a) < 0 then f b else f c
  | 11 => pwV (f a) b
  | 12 => sg b (f a)
  | _ => cst
/-- what the node q of a law may be: its kind, and what it stands on came earlier -/
def NdOK (n ns q : Nat) (kd a b c : Int32) : Prop := ∃ k, kd = nI k ∧ k ≤ 13 ∧ (k = 0 → ∃ a', a = nI a' ∧ a' < n) ∧ (2 ≤ k ∧ k ≤ 12 → ∃ a', a = nI a' ∧ a' < q) ∧ ((2 ≤ k ∧ k ≤ 5) ∨ (8 ≤ k ∧ k ≤ 10) → ∃ b', b = nI b' ∧ b' < q) ∧ (k = 10 → ∃ c', c = nI c' ∧ c' < q) ∧ (k = 11 → ∃ b', b = nI b' ∧ b' ≤ 9) ∧ (k = 12 → ∃ b', b = nI b' ∧ b' < ns)
abbrev tc (x : Int32) : Nat := x.toNatClampNeg
/-- the reference's signals at a value -/
def sgR (h : Hp) (m s : Nat) (a : UInt64) : UInt64 := sgV (tc (hpI h (m + 11) s)) (hpI h (m + 10) s) (fun j => hpD h (m + 12) (16 * s + j)) (fun j => hpD h (m + 13) (16 * s + j)) a
/-- the reference's signals are in order -/
def SgOK (h : Hp) (m ns : Nat) : Prop := ns ≤ 8 ∧ ∀ s, s < ns → ∃ n, n ≤ 16 ∧ hpI h (m + 11) s = nI n ∧ ∀ j, j < n → Nm (hpD h (m + 12) (16 * s + j))
def wR (h : Hp) (m l : Nat) (t : UInt64) (x : Nat → UInt64) (q : Nat) (f : Nat → UInt64) : UInt64 := wV (tc (hpI h (m + 5) (48 * l + q))) (tc (hpI h (m + 6) (48 * l + q))) (tc (hpI h (m + 7) (48 * l + q))) (tc (hpI h (m + 8) (48 * l + q))) (hpD h (m + 9) (48 * l + q)) t x f (sgR h m)
theorem r_worth {h : Hp} {m l q n ns st : Nat} {t : UInt64} (H : RO h m) (hl : l < 8) (hq : q < 48) (hn : n ≤ 6) (hsg : SgOK h m ns) (hst : hpK h st = some (10, 6)) (hN : NdOK n ns q (hpI h (m + 5) (48 * l + q)) (hpI h (m + 6) (48 * l + q)) (hpI h (m + 7) (48 * l + q)) (hpI h (m + 8) (48 * l + q))) (hc : ∀ j, j < q → Cv (hpD h (m + 44) j)) :
    f_X9_worth m (nI l) (nI q) t (some st) h = some (wR h m l t (hpD h st) q (hpD h (m + 44)), h) := by
  obtain ⟨k, hk, hk13, h0, h1, h2, h3, h4, h5⟩ := hN
  unfold f_X9_worth wR
  simp only [li48, ni_mul, ni_add]
  have hi : 48 * l + q < 384 := by omega
  simp only [ro_g5 H, ro_g6 H, ro_g4 H, Option.bind_some, ro_a5 H hi, ro_a6 H hi, ro_a4 H hi, hk]
  have hkt : tc (nI k) = k := ni_cl (by omega)
  have hti : (nI k).toInt = (k : Int) := ni_toInt (by omega)
  rw [hkt, hti]
  have ek : ∀ j : Nat, j < 100 → (nI k = nI j ↔ k = j) := fun j hj => ni_eq (by omega) (by omega)
  rcases (by omega : k = 0 ∨ k = 1 ∨ k = 2 ∨ k = 3 ∨ k = 4 ∨ k = 5 ∨ k = 6 ∨ k = 7 ∨ k = 8 ∨ k = 9 ∨ k = 10 ∨ k = 11 ∨ k = 12 ∨ k = 13) with rfl | rfl | rfl | rfl | rfl | rfl | rfl | rfl | rfl | rfl | rfl | rfl | rfl | rfl
  · obtain ⟨a', ea, la⟩ := h0 rfl
    rw [ea]
    have e1 : aldD h (some st) (nI a') = some (hpD h st a') := by rw [aldD_ok hst (ni_in (by omega) (by decide)), ni_cl (by omega)]
    simp [li0, e1, wV, ni_cl (show a' < 2147483648 by omega)]
  · simp [li0, li1, ni_eq, wV]
  · obtain ⟨a', ea, la⟩ := h1 (by omega)
    obtain ⟨b', eb, lb⟩ := h2 (by omega)
    rw [ea, eb]
    simp [li0, li1, li2, ni_eq, ro_g46 H, ro_a46 H (show a' < 48 by omega), ro_a46 H (show b' < 48 by omega), r_plus, bnd_some, wV, ni_cl (show a' < 2147483648 by omega), ni_cl (show b' < 2147483648 by omega)]
  · obtain ⟨a', ea, la⟩ := h1 (by omega)
    obtain ⟨b', eb, lb⟩ := h2 (by omega)
    rw [ea, eb]
    simp [li0, li1, li2, li3, ni_eq, ro_g46 H, ro_a46 H (show a' < 48 by omega), ro_a46 H (show b' < 48 by omega), r_less, bnd_some, wV, ni_cl (show a' < 2147483648 by omega), ni_cl (show b' < 2147483648 by omega)]
  · obtain ⟨a', ea, la⟩ := h1 (by omega)
    obtain ⟨b', eb, lb⟩ := h2 (by omega)
    rw [ea, eb]
    simp [li0, li1, li2, li3, li4, ni_eq, ro_g46 H, ro_a46 H (show a' < 48 by omega), ro_a46 H (show b' < 48 by omega), r_times, bnd_some, wV, ni_cl (show a' < 2147483648 by omega), ni_cl (show b' < 2147483648 by omega)]
  · obtain ⟨a', ea, la⟩ := h1 (by omega)
    obtain ⟨b', eb, lb⟩ := h2 (by omega)
    rw [ea, eb]
    simp [li0, li1, li2, li3, li4, li5, ni_eq, ro_g46 H, ro_a46 H (show a' < 48 by omega), ro_a46 H (show b' < 48 by omega), r_by, bnd_some, wV, ni_cl (show a' < 2147483648 by omega), ni_cl (show b' < 2147483648 by omega)]
  · obtain ⟨a', ea, la⟩ := h1 (by omega)
    rw [ea]
    simp [li0, li1, li2, li3, li4, li5, li6, ni_eq, ro_g46 H, ro_a46 H (show a' < 48 by omega), r_turned, bnd_some, wV, ni_cl (show a' < 2147483648 by omega)]
  · obtain ⟨a', ea, la⟩ := h1 (by omega)
    rw [ea]
    simp [li0, li1, li2, li3, li4, li5, li6, li7, ni_eq, ro_g46 H, ro_a46 H (show a' < 48 by omega), r_size (hc a' la), bnd_some, wV, ni_cl (show a' < 2147483648 by omega)]
  · obtain ⟨a', ea, la⟩ := h1 (by omega)
    obtain ⟨b', eb, lb⟩ := h2 (by omega)
    rw [ea, eb]
    simp [li0, li1, li2, li3, li4, li5, li6, li7, li8, ni_eq, ro_g46 H, ro_a46 H (show a' < 48 by omega), ro_a46 H (show b' < 48 by omega), r_least, bnd_some, wV, ni_cl (show a' < 2147483648 by omega), ni_cl (show b' < 2147483648 by omega)]
  · obtain ⟨a', ea, la⟩ := h1 (by omega)
    obtain ⟨b', eb, lb⟩ := h2 (by omega)
    rw [ea, eb]
    simp [li0, li1, li2, li3, li4, li5, li6, li7, li8, li9, ni_eq, ro_g46 H, ro_a46 H (show a' < 48 by omega), ro_a46 H (show b' < 48 by omega), r_greatest, bnd_some, wV, ni_cl (show a' < 2147483648 by omega), ni_cl (show b' < 2147483648 by omega)]
  · obtain ⟨a', ea, la⟩ := h1 (by omega)
    obtain ⟨b', eb, lb⟩ := h2 (by omega)
    obtain ⟨c', ec, lc⟩ := h3 rfl
    rw [ea, eb, ec]
    have hcut : (0 ≤ cg (hpD h (m + 44) a') FP.dconst0) ↔ ¬ ((ky (hpD h (m + 44) a')).natAbs ≤ 9218868437227405312 ∧ ky (hpD h (m + 44) a') < 0) := by
      rw [cg_ge, ky_0]
      constructor
      · rintro (q | q) z
        · exact q ⟨z.1, nm_0⟩
        · omega
      · intro q
        by_cases z : Nm (hpD h (m + 44) a')
        · exact Or.inr (Int.not_lt.mp (fun w => q ⟨z, w⟩))
        · exact Or.inl (fun w => z w.1)
    by_cases hcc : 0 ≤ cg (hpD h (m + 44) a') FP.dconst0
    · have hcd := hcut.mp hcc
      have hc2 : nI 0 ≤ cg (hpD h (m + 44) a') FP.dconst0 := hcc
      simp only [wV, ni_cl (show a' < 2147483648 by omega), ni_cl (show b' < 2147483648 by omega), ni_cl (show c' < 2147483648 by omega), if_neg hcd]
      simp [li0, li1, li2, li3, li4, li5, li6, li7, li8, li9, li10, ni_eq, ro_g46 H, ro_a46 H (show a' < 48 by omega), ro_a46 H (show c' < 48 by omega), ro_g7 H, ro_a7 H hi, ec, hc2, f_X9_worth_272]
    · have hcd : (ky (hpD h (m + 44) a')).natAbs ≤ 9218868437227405312 ∧ ky (hpD h (m + 44) a') < 0 := Classical.byContradiction (fun q => hcc (hcut.mpr q))
      have hc2 : ¬ nI 0 ≤ cg (hpD h (m + 44) a') FP.dconst0 := hcc
      simp only [wV, ni_cl (show a' < 2147483648 by omega), ni_cl (show b' < 2147483648 by omega), ni_cl (show c' < 2147483648 by omega), if_pos hcd]
      simp [li0, li1, li2, li3, li4, li5, li6, li7, li8, li9, li10, ni_eq, ro_g46 H, ro_a46 H (show a' < 48 by omega), ro_a46 H (show b' < 48 by omega), hc2, f_X9_worth_272]
  · obtain ⟨a', ea, la⟩ := h1 (by omega)
    obtain ⟨b', eb, lb⟩ := h4 rfl
    rw [ea, eb]
    simp [li0, li1, li2, li3, li4, li5, li6, li7, li8, li9, li10, li11, ni_eq, ro_g46 H, ro_a46 H (show a' < 48 by omega), r_power _ b' (by omega), bnd_some, wV, ni_cl (show a' < 2147483648 by omega), ni_cl (show b' < 2147483648 by omega)]
  · obtain ⟨a', ea, la⟩ := h1 (by omega)
    obtain ⟨b', eb, lb⟩ := h5 rfl
    rw [ea, eb]
    obtain ⟨np, hnp, enp, htm⟩ := hsg.2 b' lb
    have hb8 : b' < 8 := by have := hsg.1; omega
    simp [li0, li1, li2, li3, li4, li5, li6, li7, li8, li9, li10, li11, li12, ni_eq, ro_g46 H, ro_a46 H (show a' < 48 by omega), ro_ck H, r_signalAt H hb8 hnp enp htm, bnd_some, wV, sgR, enp, ni_cl (show a' < 2147483648 by omega), ni_cl (show b' < 2147483648 by omega), ni_cl (show np < 2147483648 by omega)]
  · simp [ro_g8 H, ro_a8 H hi, wV]
