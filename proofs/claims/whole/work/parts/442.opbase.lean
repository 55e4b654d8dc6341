/-! ===== what the calls share ===== -/
theorem in_cases (v : Int32) {N : Nat} (hN : N < 1000) : (∃ k, k < N ∧ v = nI k) ∨ (v < 0 ∨ nI N ≤ v) := by
  by_cases h1 : v < 0
  · exact Or.inr (Or.inl h1)
  · by_cases h2 : nI N ≤ v
    · exact Or.inr (Or.inr h2)
    · obtain ⟨k, hk, e⟩ := ni_of3 (n := N) (by omega) (Int32.not_lt.mp h1) (Int32.not_le.mp h2)
      exact Or.inl ⟨k, hk, e⟩
theorem pred_toInt {N : Nat} (hN : N < 1000) : (nI N - 1).toInt = (N : Int) - 1 := by
  cases N with
  | zero => decide
  | succ N =>
    rw [li1, ni_sub (by omega), ni_toInt (by omega)]
    omega
theorem le_pred {v : Int32} {N : Nat} (hN : N < 1000) : v ≤ nI N - 1 ↔ ¬ nI N ≤ v := by
  rw [Int32.le_iff_toInt_le, Int32.le_iff_toInt_le, pred_toInt hN, ni_toInt (by omega)]
  omega
theorem r_in_ok {k N : Nat} (hk : k < N) (hN : N < 1000) (h : Hp) : f_X9_in (nI k) 0 (nI N - 1) h = some (1, h) := by
  rw [r_in, if_pos ⟨by rw [li0, ni_le (by omega) (by omega)]; omega, (le_pred hN).mpr (by rw [ni_le (by omega) (by omega)]; omega)⟩]
theorem r_in_no {v : Int32} {N : Nat} (hN : N < 1000) (hv : v < 0 ∨ nI N ≤ v) (h : Hp) : f_X9_in v 0 (nI N - 1) h = some (0, h) := by
  rw [r_in, if_neg]
  rintro ⟨z1, z2⟩
  rcases hv with q | q
  · exact absurd q (Int32.not_lt.mpr z1)
  · exact (le_pred hN).mp z2 q
theorem k_cases (v : Int32) : (∃ k, k ≤ 30 ∧ v = nI k) ∨ (v < 0 ∨ 30 < v) := by
  rcases in_cases v (N := 31) (by omega) with ⟨k, hk, e⟩ | z | z
  · exact Or.inl ⟨k, by omega, e⟩
  · exact Or.inr (Or.inl z)
  · refine Or.inr (Or.inr ?_)
    rw [Int32.lt_iff_toInt_lt]
    rw [Int32.le_iff_toInt_le, ni_toInt (by omega)] at z
    have : (30 : Int32).toInt = 30 := by decide
    omega
theorem isK_ok {k : Nat} (hk : k ≤ 30) (h : Hp) : f_X8_isK (nI k) h = some (1, h) ∧ f_X9_in (nI k) 0 30 h = some (1, h) := by
  have a : ¬ nI k < 0 := by rw [li0, ni_lt (by omega) (by omega)]; omega
  have b : ¬ (30 : Int32) < nI k := by rw [li30, ni_lt (by omega) (by omega)]; omega
  refine ⟨?_, ?_⟩
  · unfold f_X8_isK f_X8_isK_15
    rw [if_neg a, if_neg b, if_pos (by decide)]
  · rw [r_in, if_pos ⟨Int32.not_lt.mp a, Int32.not_lt.mp b⟩]
theorem isK_no {v : Int32} (hv : v < 0 ∨ 30 < v) (h : Hp) : f_X8_isK v h = some (0, h) ∧ f_X9_in v 0 30 h = some (0, h) := by
  refine ⟨?_, ?_⟩
  · unfold f_X8_isK f_X8_isK_14 f_X8_isK_15
    by_cases q : v < 0
    · rw [if_pos q, if_pos (by decide)]
    · rw [if_neg q, if_pos (hv.resolve_left q), if_pos (by decide)]
  · rw [r_in, if_neg]
    rintro ⟨z1, z2⟩
    rcases hv with q | q
    · exact absurd q (Int32.not_lt.mpr z1)
    · exact absurd q (Int32.not_lt.mpr z2)
/-- n / 2^k -/
def qV (p : Int64) (k : Int32) : UInt64 := FP.ddiv (FP.l2d p) (FP.l2d (1 <<< (k.toInt64 &&& 63)))
theorem l2d_2 {k : Nat} (hk : k ≤ 30) : FP.l2d (1 <<< ((nI k).toInt64 &&& 63)) = dE (1023 + k) 0 := by
  have := (by decide +kernel : ∀ i : Fin 31, FP.l2d ((1 : Int64) <<< ((nI i.1).toInt64 &&& 63)) = dE (1023 + i.1) 0) ⟨k, by omega⟩
  exact this
theorem qV_is {p : Int64} {k : Nat} (hk : k ≤ 30) : (p = 0 ∧ qV p (nI k) = 0) ∨ ∃ e t, 993 ≤ e ∧ e ≤ 1087 ∧ t < 2 ^ 52 ∧ ((0 < p.toInt ∧ qV p (nI k) = dE e t) ∨ (p.toInt < 0 ∧ qV p (nI k) = FP.dneg (dE e t))) := by
  by_cases z : p = 0
  · left
    refine ⟨z, ?_⟩
    unfold qV
    rw [l2d_2 hk, z]
    have := (by decide +kernel : ∀ i : Fin 31, FP.ddiv (FP.l2d 0) (dE (1023 + i.1) 0) = 0) ⟨k, by omega⟩
    exact this
  · right
    have zi : p.toInt ≠ 0 := fun e => z (Int64.toInt.inj (by rw [e]; rfl))
    have b1 := FP.Core.l2d_big zi
    have b2 := FP.Core.l2d_mag p
    obtain ⟨c, q, hv⟩ := FP.Core.l2d_shape p
    have fin := FP.Core.l2d_fin p
    have nn : FP.Core.val64 (FP.l2d p) ≠ .nan := by show FP.Core.val64 (FP.Core.l2d p) ≠ _; rw [hv]; simp
    have sg := FP.Core.sgn_bits nn
    have sg2 : FP.Core.sgn (FP.Core.val64 (FP.l2d p)) = decide (p.toInt < 0) := by show FP.Core.sgn (FP.Core.val64 (FP.Core.l2d p)) = _; rw [hv]; rfl
    rw [sg2] at sg
    have b1' : 1023 * 2 ^ 52 ≤ (FP.l2d p).toNat % 2 ^ 63 := b1.1
    have b2' : (FP.l2d p).toNat % 2 ^ 63 < 1088 * 2 ^ 52 := b2
    have lt := (FP.l2d p).toNat_lt
    unfold qV
    rw [l2d_2 hk]
    generalize FP.l2d p = a at b1' b2' sg lt
    have hm := ky_mod a
    have e1 : 1023 ≤ a.toNat % 2 ^ 63 / 2 ^ 52 := by omega
    have e2 : a.toNat % 2 ^ 63 / 2 ^ 52 ≤ 1087 := by omega
    have t1 : a.toNat % 2 ^ 63 % 2 ^ 52 < 2 ^ 52 := by omega
    have kd := dE_ky (e := a.toNat % 2 ^ 63 / 2 ^ 52) (t := a.toNat % 2 ^ 63 % 2 ^ 52) (by omega) t1
    have sum : a.toNat % 2 ^ 63 / 2 ^ 52 * 2 ^ 52 + a.toNat % 2 ^ 63 % 2 ^ 52 = a.toNat % 2 ^ 63 := by omega
    rw [sum] at kd
    refine ⟨a.toNat % 2 ^ 63 / 2 ^ 52 - k, a.toNat % 2 ^ 63 % 2 ^ 52, by omega, by omega, t1, ?_⟩
    have dv := dE_div (e := a.toNat % 2 ^ 63 / 2 ^ 52) (t := a.toNat % 2 ^ 63 % 2 ^ 52) (j := k) (by omega) (by omega) (by omega) t1
    have kk := ky_sgn (a := a)
    by_cases pn : p.toInt < 0
    · right
      refine ⟨pn, ?_⟩
      have sa : 2 ^ 63 ≤ a.toNat := by rw [decide_eq_true pn] at sg; exact of_decide_eq_true sg.symm
      have ka : ky a < 0 := by rcases kk.mp sa with z | z; exact z; omega
      have ea : a = FP.dneg (dE (a.toNat % 2 ^ 63 / 2 ^ 52) (a.toNat % 2 ^ 63 % 2 ^ 52)) := ky_inj (by rw [ky_dneg, kd]; omega) (by omega)
      have n1 := nm_is.mp (dE_nm (e := a.toNat % 2 ^ 63 / 2 ^ 52) (t := a.toNat % 2 ^ 63 % 2 ^ 52) (by omega) t1)
      have n2 := nm_is.mp (dE_nm (e := a.toNat % 2 ^ 63 / 2 ^ 52 - k) (t := a.toNat % 2 ^ 63 % 2 ^ 52) (by omega) t1)
      have q : FP.ddiv (FP.dneg (dE (a.toNat % 2 ^ 63 / 2 ^ 52) (a.toNat % 2 ^ 63 % 2 ^ 52))) (dE (1023 + k) 0) = FP.dneg (dE (a.toNat % 2 ^ 63 / 2 ^ 52 - k) (a.toNat % 2 ^ 63 % 2 ^ 52)) := by
        rw [FP.dneg_core n1, FP.dneg_core n2, ← dv]
        exact FP.Core.ddiv_dneg _ _
      generalize dE (a.toNat % 2 ^ 63 / 2 ^ 52) (a.toNat % 2 ^ 63 % 2 ^ 52) = x at ea q
      generalize dE (a.toNat % 2 ^ 63 / 2 ^ 52 - k) (a.toNat % 2 ^ 63 % 2 ^ 52) = y at q ⊢
      rw [ea]; exact q
    · left
      refine ⟨by omega, ?_⟩
      have sa : ¬ 2 ^ 63 ≤ a.toNat := by rw [decide_eq_false pn] at sg; exact of_decide_eq_false sg.symm
      have ka : ¬ ky a < 0 := fun z => sa (kk.mpr (Or.inl z))
      have ea : a = dE (a.toNat % 2 ^ 63 / 2 ^ 52) (a.toNat % 2 ^ 63 % 2 ^ 52) := ky_inj (by rw [kd]; omega) (by omega)
      generalize dE (a.toNat % 2 ^ 63 / 2 ^ 52) (a.toNat % 2 ^ 63 % 2 ^ 52) = x at ea dv
      generalize dE (a.toNat % 2 ^ 63 / 2 ^ 52 - k) (a.toNat % 2 ^ 63 % 2 ^ 52) = y at dv ⊢
      rw [ea]; exact dv
theorem qV_b {p : Int64} {k : Nat} (hk : k ≤ 30) : (ky (qV p (nI k))).natAbs < 1089 * 2 ^ 52 ∧ qV p (nI k) ≠ mz ∧ (0 < p.toInt → 0 < ky (qV p (nI k))) ∧ (0 ≤ p.toInt → 0 ≤ ky (qV p (nI k))) := by
  rcases qV_is (p := p) hk with ⟨z, e⟩ | ⟨e, t, h1, h2, h3, ⟨h4, h5⟩ | ⟨h4, h5⟩⟩
  · rw [e, ky_00]
    refine ⟨by decide, by unfold mz; decide, fun w => ?_, fun _ => by decide⟩
    rw [z] at w; exact absurd w (by decide)
  · rw [h5]
    have kd := dE_ky (e := e) (t := t) (by omega) h3
    have kz : ky mz = 0 := by unfold mz; decide +kernel
    refine ⟨by omega, fun w => ?_, fun _ => by omega, fun _ => by omega⟩
    rw [w, kz] at kd; omega
  · rw [h5, ky_dneg]
    have kd := dE_ky (e := e) (t := t) (by omega) h3
    have kz : ky mz = 0 := by unfold mz; decide +kernel
    refine ⟨by omega, fun w => ?_, fun _ => by omega, fun _ => by omega⟩
    have := ky_dneg (dE e t)
    rw [w, kz] at this; omega
theorem qV_fn {p : Int64} {k : Nat} (hk : k ≤ 30) : Fn (qV p (nI k)) := kb_fn (qV_b hk).1 (by omega)
theorem c_quo {p : Int64} {k : Nat} (hk : k ≤ 30) (h : Hp) : f_X8_quotient p (nI k) h = some (qV p (nI k), h) ∧ f_X9_number p (nI k) h = some (qV p (nI k), h) := by
  have n : Nm (FP.ddiv (FP.l2d p) (FP.l2d (1 <<< ((nI k).toInt64 &&& 63)))) := (qV_fn (p := p) hk).nm
  unfold f_X8_quotient f_X9_number
  rw [fop_ok n, Option.bind_some]
  exact ⟨rfl, rfl⟩
/-! ===== laws and runs by their numbers ===== -/
theorem c_runAt_ok {b : Nat} {h : Hp} {c s0 nl ns nr : Nat} {Lw nv nn Ob : Nat → Nat} {ex : Nat → Bool} {rl : Nat → Nat} {Rc : Nat → RecT} {τ : Nat → Nat} (I : IG b h c s0 nl ns nr Lw nv nn Ob ex rl Rc τ) {s : Nat} (hs : s < nr) : f_X8_runAt c (nI s) h = some (some (Ob s), h) := by
  obtain ⟨⟨a1, -⟩, ⟨-, -, c3, -, -, c6, -⟩, -, -, -, -, -, i8, -⟩ := I
  have g6 : getR h (some c) 8 6 = some (some (c + 6)) := by rw [getR_ok a1.1, a1.2.2.2.2.2.1]
  have k6 : hpK h (c + 6) = some (15, 4) := a1.2.2.2.2.2.2.2.2.2.2.2.1
  unfold f_X8_runAt f_X8_runAt_22
  rw [if_neg (by rw [li0, ni_lt (by omega) (by omega)]; omega), getI_ok a1.1, Option.bind_some, c6, if_neg (by rw [ni_le (by omega) (by omega)]; omega), g6, Option.bind_some, aldR_ok k6 (ni_in (show s < 4 by omega) (by omega)), ni_cl (by omega), Option.bind_some, (i8 s (by omega)).2.1 hs]
theorem c_runAt_no {b : Nat} {h : Hp} {c s0 nl ns nr : Nat} {Lw nv nn Ob : Nat → Nat} {ex : Nat → Bool} {rl : Nat → Nat} {Rc : Nat → RecT} {τ : Nat → Nat} (I : IG b h c s0 nl ns nr Lw nv nn Ob ex rl Rc τ) {v : Int32} (hv : v < 0 ∨ nI nr ≤ v) : f_X8_runAt c v h = some (none, h) := by
  obtain ⟨⟨a1, -⟩, ⟨-, -, c3, -, -, c6, -⟩, -⟩ := I
  unfold f_X8_runAt f_X8_runAt_21 f_X8_runAt_22
  by_cases q : v < 0
  · rw [if_pos q]
  · rw [if_neg q, getI_ok a1.1, Option.bind_some, c6, if_pos (hv.resolve_left q)]
theorem r_isRun_ok {b : Nat} {h : Hp} {c s0 nl ns nr : Nat} {Lw nv nn Ob : Nat → Nat} {ex : Nat → Bool} {rl : Nat → Nat} {Rc : Nat → RecT} {τ : Nat → Nat} (I : IG b h c s0 nl ns nr Lw nv nn Ob ex rl Rc τ) {s : Nat} (hs : s < nr) : f_X9_isRun (c + 66) (nI s) h = some (1, h) := by
  obtain ⟨⟨a1, -, -, -, -, -, -, a8⟩, ⟨-, -, c3, -, -, -, -, -, c9⟩, -⟩ := I
  unfold f_X9_isRun
  rw [getI_ok (ro_K a8), Option.bind_some, c9, r_in_ok hs (by omega), bnd_some, if_pos (by decide)]
theorem r_isRun_no {b : Nat} {h : Hp} {c s0 nl ns nr : Nat} {Lw nv nn Ob : Nat → Nat} {ex : Nat → Bool} {rl : Nat → Nat} {Rc : Nat → RecT} {τ : Nat → Nat} (I : IG b h c s0 nl ns nr Lw nv nn Ob ex rl Rc τ) {v : Int32} (hv : v < 0 ∨ nI nr ≤ v) : f_X9_isRun (c + 66) v h = some (0, h) := by
  obtain ⟨⟨a1, -, -, -, -, -, -, a8⟩, ⟨-, -, c3, -, -, -, -, -, c9⟩, -⟩ := I
  unfold f_X9_isRun
  rw [getI_ok (ro_K a8), Option.bind_some, c9, r_in_no (by omega) hv, bnd_some, if_pos (by decide)]
theorem c_lawAt_ok {b : Nat} {h : Hp} {c s0 nl ns nr : Nat} {Lw nv nn Ob : Nat → Nat} {ex : Nat → Bool} {rl : Nat → Nat} {Rc : Nat → RecT} {τ : Nat → Nat} (I : IG b h c s0 nl ns nr Lw nv nn Ob ex rl Rc τ) {l : Nat} (hl : l < nl) : f_X8_lawAt c (nI l) h = some (some (Lw l), h) := by
  obtain ⟨⟨a1, -⟩, ⟨c1, -, -, c4, -⟩, i3, -⟩ := I
  have g2 : getR h (some c) 8 2 = some (some (c + 4)) := by rw [getR_ok a1.1, a1.2.2.2.1]
  have k4 : hpK h (c + 4) = some (13, 8) := a1.2.2.2.2.2.2.2.2.2.1
  unfold f_X8_lawAt f_X8_lawAt_22
  rw [if_neg (by rw [li0, ni_lt (by omega) (by omega)]; omega), getI_ok a1.1, Option.bind_some, c4, if_neg (by rw [ni_le (by omega) (by omega)]; omega), g2, Option.bind_some, aldR_ok k4 (ni_in (show l < 8 by omega) (by omega)), ni_cl (by omega), Option.bind_some, (i3 l hl).1]
theorem c_lawAt_no {b : Nat} {h : Hp} {c s0 nl ns nr : Nat} {Lw nv nn Ob : Nat → Nat} {ex : Nat → Bool} {rl : Nat → Nat} {Rc : Nat → RecT} {τ : Nat → Nat} (I : IG b h c s0 nl ns nr Lw nv nn Ob ex rl Rc τ) {v : Int32} (hv : v < 0 ∨ nI nl ≤ v) : f_X8_lawAt c v h = some (none, h) := by
  obtain ⟨⟨a1, -⟩, ⟨-, -, c3, c4, -⟩, -⟩ := I
  unfold f_X8_lawAt f_X8_lawAt_21 f_X8_lawAt_22
  by_cases q : v < 0
  · rw [if_pos q]
  · rw [if_neg q, getI_ok a1.1, Option.bind_some, c4, if_pos (hv.resolve_left q)]
theorem hasV_ok {h : Hp} {L k sg n i : Nat} (H : LO h L k sg n) (en : hpI h L 1 = nI n) (hi : i < n) (hn : n ≤ 6) : f_X1_hasVariable L (nI i) h = some (1, h) := by
  rw [c_hasVariable H en, if_neg (by rw [li0, ni_lt (by omega) (by omega)]; omega), if_neg (by rw [ni_le (by omega) (by omega)]; omega)]
theorem hasV_no {h : Hp} {L k sg n : Nat} {v : Int32} (H : LO h L k sg n) (en : hpI h L 1 = nI n) (hv : v < 0 ∨ nI n ≤ v) : f_X1_hasVariable L v h = some (0, h) := by
  rw [c_hasVariable H en]
  by_cases q : v < 0
  · rw [if_pos q]
  · rw [if_neg q, if_pos (hv.resolve_left q)]
theorem hasN_ok {h : Hp} {L k sg n N i : Nat} (H : LO h L k sg n) (en : hpI h L 10 = nI N) (hi : i < N) (hn : N ≤ 48) : f_X1_hasNode L (nI i) h = some (1, h) := by
  rw [c_hasNode H en, if_neg (by rw [li0, ni_lt (by omega) (by omega)]; omega), if_neg (by rw [ni_le (by omega) (by omega)]; omega)]
theorem hasN_no {h : Hp} {L k sg n N : Nat} {v : Int32} (H : LO h L k sg n) (en : hpI h L 10 = nI N) (hv : v < 0 ∨ nI N ≤ v) : f_X1_hasNode L v h = some (0, h) := by
  rw [c_hasNode H en]
  by_cases q : v < 0
  · rw [if_pos q]
  · rw [if_neg q, if_pos (hv.resolve_left q)]
