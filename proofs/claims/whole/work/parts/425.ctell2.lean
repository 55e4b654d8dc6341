/-! ===== the class tells ===== -/
theorem c_bitsOfSize {h : Hp} {c : Nat} {s : UInt64} (X : XO h c) (te : TE h c) (hs : s.toNat < 2 ^ 63) (ns : Nm s) : f_X7_bitsOfSize (c + 2) s h = some (Int64.ofNat s.toNat, h) := by
  have hk : ky s = (s.toNat : Int) := by unfold ky FP.Core.dkey; split <;> omega
  have ns' : (ky s).natAbs ≤ 9218868437227405312 := ns
  unfold f_X7_bitsOfSize
  by_cases q1 : cl s 9218868437227405311 ≤ 0
  · rw [if_pos q1]
    have k1 := (gt_most ns).1.mp q1
    have kn : ky (4503599627370496 : UInt64) = 4503599627370496 := by decide +kernel
    have c1 : 0 ≤ cg s 4503599627370496 ↔ 2 ^ 52 ≤ s.toNat := by
      rw [cg_ge_n ns (nm_c kn (by decide)), kn, hk]; omega
    by_cases q2 : 2 ^ 52 ≤ s.toNat
    · rw [if_pos (c1.mpr q2)]
      obtain ⟨e, t, he, ht, hst⟩ : ∃ e t, s.toNat = e * 2 ^ 52 + t ∧ t < 2 ^ 52 ∧ s = dE e t := by
        refine ⟨s.toNat / 2 ^ 52, s.toNat % 2 ^ 52, by omega, by omega, ?_⟩
        unfold dE
        rw [show s.toNat / 2 ^ 52 * 2 ^ 52 + s.toNat % 2 ^ 52 = s.toNat by omega, UInt64.ofNat_toNat]
      have e1 : 1 ≤ e := by omega
      have e2 : e ≤ 2046 := by omega
      rw [xo_t0 X, Option.bind_some, xo_tl X, Option.bind_some, hst, li1, ni_sub (by omega)]
      obtain ⟨e', x', r1, r2, r3, r4⟩ := c_bits_59 X te ht 10 fuelN e 1023 (by omega) (by unfold fuelN; omega) e1 e2 (by omega)
      have r1' : f_X7_bitsOfSize_59 fuelN (some (c + 2)) (dE e t) 1023 (nI (10 - 1)) h = _ := r1
      rw [r1', c_bits_110 X te ht (S := e + 1023) ⟨by omega, by omega⟩ 10 fuelN e' x' (by omega) (by unfold fuelN; omega) r2 r3 (by omega) (by omega), dE_nat e2 ht, Nat.add_sub_cancel]
    · rw [if_neg (fun z => q2 (c1.mp z))]
      obtain ⟨f1, f2, f3, d⟩ := c_bits_sub (s := s) (by omega)
      have a9 : aldD h (some (c + 3)) 9 = some (dE (1023 + 512) 0) := xo_ta (i := 9) X te (by omega)
      have k : (4832362400168542208 : UInt64) = dE (1023 + 50) 0 := by decide
      rw [xo_t0 X, Option.bind_some, a9, Option.bind_some, fop_ok f1.nm, Option.bind_some, Option.bind_some, a9, Option.bind_some, fop_ok f2.nm, Option.bind_some, k, fop_ok f3.nm, Option.bind_some, d]
  · rw [if_neg q1]
    have k1 : ky s = 9218868437227405312 := Classical.byContradiction fun z => q1 ((gt_most ns).1.mpr z)
    have : s.toNat = 9218868437227405312 := by omega
    rw [this]
    rfl
theorem sgn_or {a : UInt64} (h : 2 ^ 63 ≤ a.toNat) : (9223372036854775808 : UInt64) ||| mk a = a := by
  apply UInt64.toNat_inj.mp
  rw [UInt64.toNat_or, mk_toNat]
  have ha := a.toNat_lt
  have h1 := Nat.two_pow_add_eq_or_of_lt (show a.toNat % 2 ^ 63 < 2 ^ 63 by omega) 1
  have h2 : (9223372036854775808 : UInt64).toNat = 2 ^ 63 * 1 := by decide
  rw [h2, ← h1]
  omega
theorem l_of (x : UInt64) : Int64.ofNat x.toNat = x.toInt64 := by
  have : Int64.ofNat x.toNat = (UInt64.ofNat x.toNat).toInt64 := rfl
  rw [this, UInt64.ofNat_toNat]
theorem xo_tk {h : Hp} {c : Nat} (X : XO h c) : ab_ck h (some (c + 2)) (7, 0) = some (c + 2) := ck_ok X.2.2.2.2.2.2.2.2.2.2.2.2.2.1
theorem c_bits {h : Hp} {c : Nat} {a : UInt64} (X : XO h c) (te : TE h c) (ha : Nm a) : f_X7_bits (c + 2) a h = some (tell a, h) := by
  have ha' : (ky a).natAbs ≤ 9218868437227405312 := ha
  have hl := a.toNat_lt
  have tl : tell a = a.toInt64 := by unfold tell; rw [if_pos ha']
  have ms : (mk a).toNat < 2 ^ 63 := by rw [mk_toNat]; omega
  have bs := c_bitsOfSize X te ms (nm_mk.mpr ha)
  have ne : 2 ^ 63 ≤ a.toNat → f_X7_bits_20 (some (c + 2)) a h = some (tell a, h) := fun q => by
    have kz : ky a ≤ 0 := by
      rcases ky_sgn.mp q with z | z
      · omega
      · have := ky_mod a; omega
    unfold f_X7_bits_20 f_X7_bits_25 f_X7_bits_37 f_X7_bits_53
    rw [if_neg (by decide), if_neg (by decide), dsub0 ha kz, fop_ok (nm_mk.mpr ha), Option.bind_some, xo_tk X, Option.bind_some, bs, bnd_some, l_of, tl]
    have k : (-9223372036854775808 : Int64) ||| (mk a).toInt64 = ((9223372036854775808 : UInt64) ||| mk a).toInt64 := rfl
    rw [k, sgn_or q]
  have po : ¬ 2 ^ 63 ≤ a.toNat → f_X7_bits_24 (some (c + 2)) a h = some (tell a, h) := fun q => by
    have em : mk a = a := by apply UInt64.toNat_inj.mp; rw [mk_toNat]; omega
    rw [em] at bs
    unfold f_X7_bits_24 f_X7_bits_25 f_X7_bits_37 f_X7_bits_53
    rw [if_pos rfl, if_pos rfl, xo_tk X, Option.bind_some, bs, bnd_some, l_of, tl]
    have k : (0 : Int64) ||| a.toInt64 = ((0 : UInt64) ||| a).toInt64 := rfl
    rw [k, UInt64.zero_or]
  unfold f_X7_bits
  by_cases q1 : cg a FP.dconst0 < 0
  · rw [if_pos q1]
    have : ky a < 0 := by have := (cg_lt.mp q1).2; rw [ky_0] at this; exact this
    exact ne (ky_sgn.mpr (Or.inl this))
  · have k1 : ¬ ky a < 0 := fun z => q1 (cg_lt.mpr ⟨⟨ha, nm_0⟩, by rw [ky_0]; exact z⟩)
    rw [if_neg q1]
    by_cases q2 : cl a FP.dconst0 = 0
    · have kz := (z_cl ha).mp q2
      rw [if_neg (fun z => z q2), fop_ok (one_by ha), Option.bind_some]
      by_cases q3 : 2 ^ 63 ≤ a.toNat
      · rw [if_neg (fun z => (inv_neg kz).mp z q3)]; exact ne q3
      · rw [if_pos ((inv_neg kz).mpr q3)]; exact po q3
    · have kz : ¬ ky a = 0 := fun z => q2 ((z_cl ha).mpr z)
      rw [if_pos q2]
      refine po (fun z => ?_)
      rcases ky_sgn.mp z with w | w
      · exact k1 w
      · have := ky_mod a; omega
theorem c_told {h : Hp} {c a N i : Nat} (X : XO h c) (te : TE h c) (R : RW h a N) (r : RN h a N) (hi : i < N) (hN : N < 1000) : f_X7_told (c + 2) (some a) (nI i) h = some (tell (RV h a i), h) := by
  unfold f_X7_told f_X7_told_25
  rw [rw_g1 R, Option.bind_some, rw_a1 R hi hN, Option.bind_some]
  by_cases q : hpI h (a + 2) i = 0
  · have e : RV h a i = hpD h (a + 1) i := by unfold RV; rw [if_pos q]
    rw [if_pos q, rw_g0 R, Option.bind_some, rw_a0 R hi hN, Option.bind_some, xo_tk X, Option.bind_some, c_bits X te (r i hi).1, bnd_some, e]
  · have e : RV h a i = nanV := by unfold RV; rw [if_neg q]
    have t : tell nanV = 9221120237041090560 := by unfold tell; rw [if_neg (show ¬ (ky nanV).natAbs ≤ 9218868437227405312 from nm_nanV)]
    rw [if_neg q, e, t]
