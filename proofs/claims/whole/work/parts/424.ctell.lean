/-! ===== the class tells a double's bits ===== -/
def dE (e t : Nat) : UInt64 := UInt64.ofNat (e * 2 ^ 52 + t)
theorem dE_nat {e t : Nat} (h : e ≤ 2046) (ht : t < 2 ^ 52) : (dE e t).toNat = e * 2 ^ 52 + t := by
  unfold dE
  exact UInt64.toNat_ofNat_of_lt' (by show e * 2 ^ 52 + t < 18446744073709551616; omega)
theorem b64_p : FP.Core.b64.p = 53 := by decide
theorem b64_t : FP.Core.b64.tails = 2 ^ 52 := by decide
theorem b64_n : FP.Core.b64.qmin = -1074 := by decide
theorem b64_x : FP.Core.b64.qmax = 971 := by decide
theorem dE_val {e t : Nat} (h1 : 1 ≤ e) (h2 : e ≤ 2046) (ht : t < 2 ^ 52) : FP.Core.val64 (dE e t) = .fin false (2 ^ 52 + t) ((e : Int) - 1075) := by
  have hf : FP.Core.fits FP.Core.b64 (.fin false (2 ^ 52 + t) ((e : Int) - 1075)) := ⟨by rw [b64_p]; omega, by rw [b64_n]; omega, by rw [b64_x]; omega, Or.inr (by rw [b64_t]; omega)⟩
  have q := FP.Core.val64_of64 hf
  have e2 : FP.Core.of64 (.fin false (2 ^ 52 + t) ((e : Int) - 1075)) = dE e t := by
    unfold FP.Core.of64 FP.Core.encode dE
    dsimp only
    rw [b64_t, b64_n, if_neg (by omega)]
    unfold FP.Core.assemble
    rw [b64_t]
    have h3 : ((e : Int) - 1075 - -1074).toNat + 1 = e := by omega
    have h4 : 2 ^ 52 + t - 2 ^ 52 = t := by omega
    rw [h3, h4, Bool.toNat_false, Nat.zero_mul, Nat.zero_add]
  rw [e2] at q
  exact q
theorem dE_ky {e t : Nat} (h : e ≤ 2046) (ht : t < 2 ^ 52) : ky (dE e t) = ((e * 2 ^ 52 + t : Nat) : Int) := by
  have hn := dE_nat h ht
  unfold ky FP.Core.dkey
  split <;> omega
theorem dE_nm {e t : Nat} (h : e ≤ 2046) (ht : t < 2 ^ 52) : Nm (dE e t) := by
  show (ky _).natAbs ≤ _; rw [dE_ky h ht]; omega
theorem dE_mul {e t j : Nat} (h1 : 1 ≤ e) (h2 : e + j ≤ 2046) (hj : j ≤ 1023) (ht : t < 2 ^ 52) : FP.dmul (dE e t) (dE (1023 + j) 0) = dE (e + j) t := by
  have v3 := dE_val (e := e + j) (t := t) (by omega) h2 ht
  refine (FP.Core.val64_inj (by rw [v3]; simp) ?_).symm
  show _ = FP.Core.val64 (FP.Core.dmul (dE e t) (dE (1023 + j) 0))
  rw [FP.Core.val64_dmul, v3, dE_val h1 (by omega) ht, dE_val (e := 1023 + j) (t := 0) (by omega) (by omega) (by omega)]
  show _ = FP.Core.round FP.Core.b64 (.fin (false != false) ((2 ^ 52 + t) * (2 ^ 52 + 0)) ((e : Int) - 1075 + (((1023 + j : Nat) : Int) - 1075)))
  have q := FP.Core.round_inUnits (f := FP.Core.b64) false (2 ^ 52 + t) (q := ((e + j : Nat) : Int) - 1075) (e := (e : Int) - 1075 + (((1023 + j : Nat) : Int) - 1075)) (by omega)
  have u : FP.Core.inUnits (2 ^ 52 + t) (((e + j : Nat) : Int) - 1075) ((e : Int) - 1075 + (((1023 + j : Nat) : Int) - 1075)) = (2 ^ 52 + t) * (2 ^ 52 + 0) := by
    unfold FP.Core.inUnits
    congr 2
    have : ((((e + j : Nat) : Int) - 1075) - ((e : Int) - 1075 + (((1023 + j : Nat) : Int) - 1075))).toNat = 52 := by omega
    rw [this]
  rw [u] at q
  rw [show (false != false) = false from rfl, q]
  have hf : FP.Core.fits FP.Core.b64 (.fin false (2 ^ 52 + t) (((e + j : Nat) : Int) - 1075)) := ⟨by rw [b64_p]; omega, by rw [b64_n]; omega, by rw [b64_x]; omega, Or.inr (by rw [b64_t]; omega)⟩
  exact (FP.Core.round_of_fits FP.Core.good_b64 hf).symm
theorem dE_div {e t j : Nat} (h1 : j + 1 ≤ e) (h2 : e ≤ 2046) (hj : j ≤ 1023) (ht : t < 2 ^ 52) : FP.ddiv (dE e t) (dE (1023 + j) 0) = dE (e - j) t := by
  have v3 := dE_val (e := e - j) (t := t) (by omega) (by omega) ht
  refine (FP.Core.val64_inj (by rw [v3]; simp) ?_).symm
  show _ = FP.Core.val64 (FP.Core.ddiv (dE e t) (dE (1023 + j) 0))
  rw [FP.Core.val64_ddiv, v3, dE_val (by omega) h2 ht, dE_val (e := 1023 + j) (t := 0) (by omega) (by omega) (by omega)]
  have n0 : ¬ ((2 : Nat) ^ 52 + 0 = 0) := by decide
  simp only [FP.Core.quotient, if_neg n0]
  refine (FP.Core.roundRatio_exact FP.Core.good_b64 (by decide) ⟨by rw [b64_p]; omega, by rw [b64_n]; omega, by rw [b64_x]; omega, Or.inr (by rw [b64_t]; omega)⟩ ?_).symm
  have a1 : ((e : Int) - 1075 - (((1023 + j : Nat) : Int) - 1075) - (((e - j : Nat) : Int) - 1075)).toNat = 52 := by omega
  have a2 : ((((e - j : Nat) : Int) - 1075) - ((e : Int) - 1075 - (((1023 + j : Nat) : Int) - 1075))).toNat = 0 := by omega
  rw [a1, a2]
  simp
theorem dE_cl {e t e' : Nat} (h : e ≤ 2046) (ht : t < 2 ^ 52) (h' : e' ≤ 2046) : cl (dE e t) (dE e' 0) < 0 ↔ e < e' := by
  have n1 := dE_nm h ht
  have n2 := dE_nm h' (t := 0) (by omega)
  rw [cl_lt, dE_ky h ht, dE_ky h' (by omega)]
  constructor
  · rintro (z | z)
    · exact absurd ⟨n1, n2⟩ z
    · omega
  · intro z; right; omega
theorem dE_cg {e t e' : Nat} (h : e ≤ 2046) (ht : t < 2 ^ 52) (h' : e' ≤ 2046) : 0 ≤ cg (dE e t) (dE e' 0) ↔ e' ≤ e := by
  rw [cg_ge_n (dE_nm h ht) (dE_nm h' (t := 0) (by omega)), dE_ky h ht, dE_ky h' (by omega)]
  omega
def ix : Nat → Int32
  | 0 => -1
  | i + 1 => nI i
theorem ix_step (i : Nat) : nI i + (-1) = ix i := by
  cases i with
  | zero => decide
  | succ i =>
    show nI (i + 1) + (-1) = nI i
    rw [← ni_add, Int32.add_assoc, show nI 1 + (-1 : Int32) = 0 from by decide, Int32.add_zero]
theorem ix_neg : ix 0 < 0 := by decide
theorem ix_pos {i : Nat} (h : i < 1000) : ¬ ix (i + 1) < 0 := by show ¬ nI i < 0; rw [li0, ni_lt (by omega) (by omega)]; omega
theorem shl1 {i : Nat} (h : i < 10) : ((1 : Int64) <<< ((nI i).toInt64 &&& 63)) = Int64.ofNat (2 ^ i) := by
  have := (by decide : ∀ i : Fin 10, ((1 : Int64) <<< ((nI i.1).toInt64 &&& 63)) = Int64.ofNat (2 ^ i.1)) ⟨i, h⟩
  exact this
theorem shl52 {X : Nat} (h : X < 2047) : (Int64.ofNat X <<< ((52 : Int32).toInt64 &&& 63)) = Int64.ofNat (X * 2 ^ 52) := by
  have := (by decide +kernel : ∀ i : Fin 2047, (Int64.ofNat i.1 <<< ((52 : Int32).toInt64 &&& 63)) = Int64.ofNat (i.1 * 2 ^ 52)) ⟨X, h⟩
  exact this
theorem l_add (a b : Nat) : Int64.ofNat a + Int64.ofNat b = Int64.ofNat (a + b) := by simp [Int64.ofNat_add]
theorem l_sub {a b : Nat} (h : b ≤ a) : Int64.ofNat a - Int64.ofNat b = Int64.ofNat (a - b) := by
  have : Int64.ofNat a = Int64.ofNat (a - b) + Int64.ofNat b := by rw [l_add]; congr 1; omega
  rw [this, Int64.add_sub_cancel]
/-- the teller's powers -/
def TE (h : Hp) (c : Nat) : Prop := ∀ i, i < 10 → hpD h (c + 3) i = dE (1023 + 2 ^ i) 0
theorem xo_t0 {h : Hp} {c : Nat} (X : XO h c) : getR h (some (c + 2)) 7 0 = some (some (c + 3)) := by rw [getR_ok X.2.2.2.2.2.2.2.2.2.2.2.2.2.1, X.2.2.2.2.2.2.2.2.2.2.2.2.2.2.1]
theorem xo_tl {h : Hp} {c : Nat} (X : XO h c) : alen h (some (c + 3)) 10 = some (nI 10) := alen_ok X.2.2.2.2.2.2.2.2.2.2.2.2.2.2.2.1
theorem xo_ta {h : Hp} {c i : Nat} (X : XO h c) (te : TE h c) (hi : i < 10) : aldD h (some (c + 3)) (nI i) = some (dE (1023 + 2 ^ i) 0) := by rw [aldD_ok X.2.2.2.2.2.2.2.2.2.2.2.2.2.2.2.1 (ni_in hi (by omega)), ni_cl (by omega), te i hi]
theorem p2_le {i : Nat} (h : i < 10) : 2 ^ i ≤ 512 := by
  have : (2 : Nat) ^ i ≤ 2 ^ 9 := Nat.pow_le_pow_right (by decide) (by omega)
  exact this
theorem c_bits_59 {h : Hp} {c t : Nat} (X : XO h c) (te : TE h c) (ht : t < 2 ^ 52) :
    ∀ (i fuel e x : Nat), i ≤ 10 → i < fuel → 1 ≤ e → e ≤ 2046 → e < 1023 + 2 ^ i → ∃ e' x', f_X7_bitsOfSize_59 fuel (some (c + 2)) (dE e t) (Int64.ofNat x) (ix i) h = f_X7_bitsOfSize_110 fuelN (some (c + 2)) (dE e' t) (Int64.ofNat x') (ix 10) h ∧ 1 ≤ e' ∧ e' ≤ 1023 ∧ e' + x' = e + x := by
  intro i
  induction i with
  | zero =>
    intro fuel e x _ hf h1 h2 h3
    obtain ⟨fuel, rfl⟩ : ∃ j, fuel = j + 1 := ⟨fuel - 1, by omega⟩
    refine ⟨e, x, ?_, h1, by rw [Nat.pow_zero] at h3; omega, rfl⟩
    rw [f_X7_bitsOfSize_59, if_pos ix_neg, xo_t0 X, Option.bind_some, xo_tl X, Option.bind_some, li1, ni_sub (by omega)]
    rfl
  | succ i ih =>
    intro fuel e x hi hf h1 h2 h3
    obtain ⟨fuel, rfl⟩ : ∃ j, fuel = j + 1 := ⟨fuel - 1, by omega⟩
    have p := p2_le (show i < 10 by omega)
    have pp : 2 ^ (i + 1) = 2 * 2 ^ i := by rw [Nat.pow_succ]; omega
    rw [f_X7_bitsOfSize_59, if_neg (ix_pos (by omega)), xo_t0 X, Option.bind_some, show ix (i + 1) = nI i from rfl, xo_ta X te (by omega), Option.bind_some]
    unfold f_X7_bitsOfSize_95
    rw [ix_step]
    by_cases q : e < 1023 + 2 ^ i
    · rw [if_pos ((dE_cl h2 ht (by omega)).mpr q)]
      exact ih fuel e x (by omega) (by omega) h1 h2 q
    · have q2 : 2 ^ i + 1 ≤ e := by omega
      rw [if_neg (fun z => q ((dE_cl h2 ht (by omega)).mp z)), Option.bind_some, xo_ta X te (by omega), Option.bind_some, dE_div q2 h2 (by omega) ht, fop_ok (dE_nm (by omega) ht), Option.bind_some, shl1 (by omega), l_add]
      obtain ⟨e', x', r1, r2, r3, r4⟩ := ih fuel (e - 2 ^ i) (x + 2 ^ i) (by omega) (by omega) (by omega) (by omega) (by omega)
      exact ⟨e', x', r1, r2, r3, by omega⟩
theorem d2l_dE {t : Nat} (ht : t < 2 ^ 52) : FP.d2l (dE 1075 t) = Int64.ofNat (2 ^ 52 + t) := by
  refine FP.Core.d2l_int ?_
  unfold FP.Core.DInt
  rw [dE_val (by omega) (by omega) ht]
  show FP.Core.signed false ((2 ^ 52 + t) * 2 ^ (((1075 : Nat) : Int) - 1075).toNat) = (Int64.ofNat (2 ^ 52 + t)).toInt * ((2 ^ (-(((1075 : Nat) : Int) - 1075)).toNat : Nat) : Int)
  rw [Int64.toInt_ofNat_of_lt (by omega)]
  show ((((2 ^ 52 + t) * 2 ^ 0 : Nat)) : Int) = ((2 ^ 52 + t : Nat) : Int) * ((2 ^ 0 : Nat) : Int)
  simp
theorem c_bits_110 {h : Hp} {c t S : Nat} (X : XO h c) (te : TE h c) (ht : t < 2 ^ 52) (hS : 1023 ≤ S ∧ S ≤ 3069) :
    ∀ (i fuel e x : Nat), i ≤ 10 → i < fuel → 1 ≤ e → e ≤ 1023 → 1023 < e + 2 ^ i → e + x = S → f_X7_bitsOfSize_110 fuel (some (c + 2)) (dE e t) (Int64.ofNat x) (ix i) h = some (Int64.ofNat ((S - 1023) * 2 ^ 52 + t), h) := by
  intro i
  induction i with
  | zero =>
    intro fuel e x _ hf h1 h2 h3 h4
    obtain ⟨fuel, rfl⟩ : ∃ j, fuel = j + 1 := ⟨fuel - 1, by omega⟩
    rw [Nat.pow_zero] at h3
    have e0 : e = 1023 := by omega
    subst e0
    have x0 : x = S - 1023 := by omega
    rw [x0]
    have k : (4841369599423283200 : UInt64) = dE (1023 + 52) 0 := by decide
    rw [f_X7_bitsOfSize_110, if_pos ix_neg, k, dE_mul (by omega) (by omega) (by omega) ht, fop_ok (dE_nm (by omega) ht), Option.bind_some, d2l_dE ht, shl52 (by omega), show (4503599627370496 : Int64) = Int64.ofNat (2 ^ 52) from by decide, l_sub (by omega), l_add, show 2 ^ 52 + t - 2 ^ 52 = t by omega]
  | succ i ih =>
    intro fuel e x hi hf h1 h2 h3 h4
    obtain ⟨fuel, rfl⟩ : ∃ j, fuel = j + 1 := ⟨fuel - 1, by omega⟩
    have p := p2_le (show i < 10 by omega)
    have pp : 2 ^ (i + 1) = 2 * 2 ^ i := by rw [Nat.pow_succ]; omega
    have k : (4611686018427387904 : UInt64) = dE 1024 0 := by decide
    have cm : 0 ≤ cg (dE (e + 2 ^ i) t) 4611686018427387904 ↔ 1024 ≤ e + 2 ^ i := by rw [k]; exact dE_cg (by omega) ht (by omega)
    rw [f_X7_bitsOfSize_110, if_neg (ix_pos (by omega)), xo_t0 X, Option.bind_some, show ix (i + 1) = nI i from rfl, xo_ta X te (by omega), Option.bind_some, dE_mul h1 (by omega) (by omega) ht, fop_ok (dE_nm (by omega) ht), Option.bind_some]
    unfold f_X7_bitsOfSize_150
    rw [ix_step]
    by_cases q : 1024 ≤ e + 2 ^ i
    · rw [if_pos (cm.mpr q)]
      exact ih fuel e x (by omega) (by omega) h1 h2 (by omega) h4
    · rw [if_neg (fun z => q (cm.mp z)), Option.bind_some, xo_ta X te (by omega), Option.bind_some, dE_mul h1 (by omega) (by omega) ht, fop_ok (dE_nm (by omega) ht), Option.bind_some, shl1 (by omega), l_sub (by omega)]
      exact ih fuel (e + 2 ^ i) (x - 2 ^ i) (by omega) (by omega) (by omega) (by omega) (by omega) (by omega)
/-- a small number times a power of two -/
theorem z_scale {a : UInt64} {j K : Nat} (fa : Fn a) (hz : FP.Core.zmag FP.Core.b64 (FP.Core.val64 a) < 2 ^ K) (hj : j ≤ 1023) (hK : K + j ≤ 2000) : Fn (FP.dmul a (dE (1023 + j) 0)) ∧ FP.Core.zmag FP.Core.b64 (FP.Core.val64 (FP.dmul a (dE (1023 + j) 0))) = FP.Core.zmag FP.Core.b64 (FP.Core.val64 a) * 2 ^ j ∧ FP.Core.sgn (FP.Core.val64 (FP.dmul a (dE (1023 + j) 0))) = FP.Core.sgn (FP.Core.val64 a) := by
  obtain ⟨s, c, q, hv⟩ := fn_fin fa
  have hf := FP.Core.val64_fits a
  rw [hv] at hf hz
  have hz' : c * 2 ^ (q - FP.Core.b64.qmin).toNat < 2 ^ K := hz
  rw [b64_n] at hz'
  have hf1 := hf.1
  have hf2 := hf.2.1
  have hf4 := hf.2.2.2
  rw [b64_n] at hf2 hf4
  rw [b64_t] at hf4
  have hq : q + (j : Int) ≤ 971 := by
    rcases hf4 with z | z
    · omega
    · have h3 : 2 ^ 52 * 2 ^ (q - -1074).toNat < 2 ^ K := Nat.lt_of_le_of_lt (Nat.mul_le_mul_right _ z) hz'
      rw [← Nat.pow_add] at h3
      have := (Nat.pow_lt_pow_iff_right (by decide : 1 < 2)).mp h3
      omega
  have val : FP.Core.val64 (FP.dmul a (dE (1023 + j) 0)) = FP.Core.round FP.Core.b64 (.fin s c (q + (j : Int))) := by
    show FP.Core.val64 (FP.Core.dmul a (dE (1023 + j) 0)) = _
    rw [FP.Core.val64_dmul, hv, dE_val (e := 1023 + j) (t := 0) (by omega) (by omega) (by omega)]
    have qq := FP.Core.round_inUnits (f := FP.Core.b64) s c (q := q + (j : Int)) (e := q + (((1023 + j : Nat) : Int) - 1075)) (by omega)
    have u : FP.Core.inUnits c (q + (j : Int)) (q + (((1023 + j : Nat) : Int) - 1075)) = c * (2 ^ 52 + 0) := by
      unfold FP.Core.inUnits
      have : (q + (j : Int) - (q + (((1023 + j : Nat) : Int) - 1075))).toNat = 52 := by omega
      rw [this]
    rw [u] at qq
    have hb : (s != false) = s := by cases s <;> rfl
    show FP.Core.round FP.Core.b64 (.fin (s != false) (c * (2 ^ 52 + 0)) (q + (((1023 + j : Nat) : Int) - 1075))) = _
    rw [hb]
    exact qq
  obtain ⟨c', q', r1, r2⟩ := FP.Core.round_exact FP.Core.good_b64 s hf1 (q := q + (j : Int)) (by rw [b64_n]; omega) (by rw [b64_x]; exact hq)
  rw [r1] at val
  refine ⟨fin_ky.mp ⟨s, c', q', val⟩, ?_, ?_⟩
  · rw [val, hv]
    show FP.Core.inUnits c' q' FP.Core.b64.qmin = FP.Core.inUnits c q FP.Core.b64.qmin * 2 ^ j
    rw [r2]
    unfold FP.Core.inUnits
    rw [b64_n, Nat.mul_assoc, ← Nat.pow_add]
    congr 2
    omega
  · rw [val, hv]; rfl
theorem c_bits_sub {s : UInt64} (hs : s.toNat < 2 ^ 52) : Fn (FP.dmul s (dE (1023 + 512) 0)) ∧ Fn (FP.dmul (FP.dmul s (dE (1023 + 512) 0)) (dE (1023 + 512) 0)) ∧ Fn (FP.dmul (FP.dmul (FP.dmul s (dE (1023 + 512) 0)) (dE (1023 + 512) 0)) (dE (1023 + 50) 0)) ∧ FP.d2l (FP.dmul (FP.dmul (FP.dmul s (dE (1023 + 512) 0)) (dE (1023 + 512) 0)) (dE (1023 + 50) 0)) = Int64.ofNat s.toNat := by
  have hm := ky_mod s
  have fs : Fn s := by show (ky s).natAbs < _; omega
  have z0 : FP.Core.zmag FP.Core.b64 (FP.Core.val64 s) = s.toNat := by
    rw [FP.Core.zmag_bits (nm_val.mp fs.nm)]
    unfold FP.Core.unitsOf
    rw [b64_t, if_pos (by omega)]
    omega
  obtain ⟨f1, z1, s1⟩ := z_scale (j := 512) (K := 52) fs (by rw [z0]; exact hs) (by omega) (by omega)
  have b1 : FP.Core.zmag FP.Core.b64 (FP.Core.val64 (FP.dmul s (dE (1023 + 512) 0))) < 2 ^ 564 := by
    rw [z1, z0, show (564 : Nat) = 52 + 512 from rfl, Nat.pow_add]
    exact Nat.mul_lt_mul_of_pos_right hs (Nat.two_pow_pos _)
  obtain ⟨f2, z2, s2⟩ := z_scale (j := 512) (K := 564) f1 b1 (by omega) (by omega)
  have b2 : FP.Core.zmag FP.Core.b64 (FP.Core.val64 (FP.dmul (FP.dmul s (dE (1023 + 512) 0)) (dE (1023 + 512) 0))) < 2 ^ 1076 := by
    rw [z2, show (1076 : Nat) = 564 + 512 from rfl, Nat.pow_add]
    exact Nat.mul_lt_mul_of_pos_right b1 (Nat.two_pow_pos _)
  obtain ⟨f3, z3, s3⟩ := z_scale (j := 50) (K := 1076) f2 b2 (by omega) (by omega)
  refine ⟨f1, f2, f3, ?_⟩
  have sg : FP.Core.sgn (FP.Core.val64 s) = false := by
    rw [FP.Core.sgn_bits (nm_val.mp fs.nm)]; exact decide_eq_false (by omega)
  have zz : FP.Core.zmag FP.Core.b64 (FP.Core.val64 (FP.dmul (FP.dmul (FP.dmul s (dE (1023 + 512) 0)) (dE (1023 + 512) 0)) (dE (1023 + 50) 0))) = s.toNat * FP.Core.one64 := by
    rw [z3, z2, z1, z0, Nat.mul_assoc, Nat.mul_assoc, ← Nat.pow_add, ← Nat.pow_add]
    rfl
  apply Int64.toInt.inj
  have d := FP.Core.d2l_val (nm_val.mp f3.nm)
  rw [zz, s3, s2, s1, sg, Nat.mul_div_cancel _ FP.Core.one64_pos] at d
  have d' : (FP.d2l (FP.dmul (FP.dmul (FP.dmul s (dE (1023 + 512) 0)) (dE (1023 + 512) 0)) (dE (1023 + 50) 0))).toInt = max (-2 ^ 63) (min (2 ^ 63 - 1) ((s.toNat : Nat) : Int)) := d
  rw [d', Int64.toInt_ofNat_of_lt (by omega)]
  omega
