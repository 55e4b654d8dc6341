/-! ===== PHASE 2: the heap of numbers, read and written ===== -/
theorem hpS_stI (h : Hp) (a k : Nat) (v : Int32) : hpS (stI h a k v) = hpS h := rfl
theorem hpS_stD (h : Hp) (a k : Nat) (v : UInt64) : hpS (stD h a k v) = hpS h := rfl
theorem hpS_stR (h : Hp) (a k : Nat) (v : Option Nat) : hpS (stR h a k v) = hpS h := rfl
theorem hpK_stI (h : Hp) (a k : Nat) (v : Int32) : hpK (stI h a k v) = hpK h := rfl
theorem hpK_stD (h : Hp) (a k : Nat) (v : UInt64) : hpK (stD h a k v) = hpK h := rfl
theorem hpK_stR (h : Hp) (a k : Nat) (v : Option Nat) : hpK (stR h a k v) = hpK h := rfl
theorem hpI_stD (h : Hp) (a k : Nat) (v : UInt64) : hpI (stD h a k v) = hpI h := rfl
theorem hpI_stR (h : Hp) (a k : Nat) (v : Option Nat) : hpI (stR h a k v) = hpI h := rfl
theorem hpD_stI (h : Hp) (a k : Nat) (v : Int32) : hpD (stI h a k v) = hpD h := rfl
theorem hpD_stR (h : Hp) (a k : Nat) (v : Option Nat) : hpD (stR h a k v) = hpD h := rfl
theorem hpR_stI (h : Hp) (a k : Nat) (v : Int32) : hpR (stI h a k v) = hpR h := rfl
theorem hpR_stD (h : Hp) (a k : Nat) (v : UInt64) : hpR (stD h a k v) = hpR h := rfl
theorem hpI_stI (h : Hp) (a k : Nat) (v : Int32) (b j : Nat) : hpI (stI h a k v) b j = if b = a then (if j = k then v else hpI h b j) else hpI h b j := rfl
theorem hpD_stD (h : Hp) (a k : Nat) (v : UInt64) (b j : Nat) : hpD (stD h a k v) b j = if b = a then (if j = k then v else hpD h b j) else hpD h b j := rfl
theorem hpR_stR (h : Hp) (a k : Nat) (v : Option Nat) (b j : Nat) : hpR (stR h a k v) b j = if b = a then (if j = k then v else hpR h b j) else hpR h b j := rfl
theorem hpS_alo (h : Hp) (kd : Nat × Nat) : hpS (alo h kd) = hpS h + 1 := rfl
theorem hpK_alo (h : Hp) (kd : Nat × Nat) (b : Nat) : hpK (alo h kd) b = if b = hpS h then some kd else hpK h b := rfl
theorem hpI_alo (h : Hp) (kd : Nat × Nat) (b j : Nat) : hpI (alo h kd) b j = if b = hpS h then 0 else hpI h b j := by
  by_cases q : b = h.1
  · simp [hpI, alo, va_up, hpS, q]
  · simp [hpI, alo, va_up, hpS, q]
theorem hpD_alo (h : Hp) (kd : Nat × Nat) (b j : Nat) : hpD (alo h kd) b j = if b = hpS h then 0 else hpD h b j := by
  by_cases q : b = h.1
  · simp [hpD, alo, va_up, hpS, q]
  · simp [hpD, alo, va_up, hpS, q]
theorem hpR_alo (h : Hp) (kd : Nat × Nat) (b j : Nat) : hpR (alo h kd) b j = if b = hpS h then none else hpR h b j := by
  by_cases q : b = h.1
  · simp [hpR, alo, va_up, hpS, q]
  · simp [hpR, alo, va_up, hpS, q]
theorem ck_ok {h : Hp} {a : Nat} {kd : Nat × Nat} (hk : hpK h a = some kd) : ab_ck h (some a) kd = some a := by simp [ab_ck, hk]
theorem getI_ok {h : Hp} {a c k : Nat} (hk : hpK h a = some (c, 0)) : getI h (some a) c k = some (hpI h a k) := by simp [getI, ab_ck, hk]
theorem getD_ok {h : Hp} {a c k : Nat} (hk : hpK h a = some (c, 0)) : getD h (some a) c k = some (hpD h a k) := by simp [getD, ab_ck, hk]
theorem getR_ok {h : Hp} {a c k : Nat} (hk : hpK h a = some (c, 0)) : getR h (some a) c k = some (hpR h a k) := by simp [getR, ab_ck, hk]
theorem putI_ok {h : Hp} {a c k : Nat} {v : Int32} (hk : hpK h a = some (c, 0)) : putI h (some a) c k v = some (stI h a k v) := by simp [putI, ab_ck, hk]
theorem putZ_ok {h : Hp} {a c k : Nat} {v : Int32} (hk : hpK h a = some (c, 0)) (hv : v = 0 ∨ v = 1) : putZ h (some a) c k v = some (stI h a k v) := by simp [putZ, putI, ab_ck, hk, hv]
theorem putD_ok {h : Hp} {a c k : Nat} {v : UInt64} (hk : hpK h a = some (c, 0)) : putD h (some a) c k v = some (stD h a k v) := by simp [putD, ab_ck, hk]
theorem putR_ok {h : Hp} {a c k : Nat} {v : Option Nat} (hk : hpK h a = some (c, 0)) : putR h (some a) c k v = some (stR h a k v) := by simp [putR, ab_ck, hk]
theorem ar_ok {h : Hp} {a t n : Nat} {i : Int32} (hk : hpK h a = some (t, n)) (hi : vp_in i n) : ab_ar h (some a) t i = some a := by
  have hi : ¬ (i < 0 ∨ n ≤ i.toNatClampNeg) := hi
  simp only [ab_ar, Option.bind_some, hk]
  rw [if_pos ⟨trivial, hi⟩]
theorem aldI_ok {h : Hp} {a t n : Nat} {i : Int32} (hk : hpK h a = some (t, n)) (hi : vp_in i n) : aldI h (some a) t i = some (hpI h a i.toNatClampNeg) := by simp [aldI, ar_ok hk hi]
theorem aldD_ok {h : Hp} {a n : Nat} {i : Int32} (hk : hpK h a = some (10, n)) (hi : vp_in i n) : aldD h (some a) i = some (hpD h a i.toNatClampNeg) := by simp [aldD, ar_ok hk hi]
theorem aldR_ok {h : Hp} {a t n : Nat} {i : Int32} (hk : hpK h a = some (t, n)) (hi : vp_in i n) : aldR h (some a) t i = some (hpR h a i.toNatClampNeg) := by simp [aldR, ar_ok hk hi]
theorem astI_ok {h : Hp} {a n : Nat} {i v : Int32} (hk : hpK h a = some (11, n)) (hi : vp_in i n) : astI h (some a) i v = some (stI h a i.toNatClampNeg v) := by simp [astI, ar_ok hk hi]
theorem astZ_ok {h : Hp} {a n : Nat} {i v : Int32} (hk : hpK h a = some (12, n)) (hi : vp_in i n) : astZ h (some a) i v = some (stI h a i.toNatClampNeg (vp_nar .boolean v)) := by simp [astZ, ar_ok hk hi]
theorem astD_ok {h : Hp} {a n : Nat} {i : Int32} {v : UInt64} (hk : hpK h a = some (10, n)) (hi : vp_in i n) : astD h (some a) i v = some (stD h a i.toNatClampNeg v) := by simp [astD, ar_ok hk hi]
theorem astR_ok {h : Hp} {a t n b : Nat} {i : Int32} (hk : hpK h a = some (t, n)) (hi : vp_in i n) (hb : hpK h b = some (ab_ec t, 0)) : astR h (some a) t i (some b) = some (stR h a i.toNatClampNeg (some b)) := by simp [astR, ar_ok hk hi, ck_ok hb]
theorem alen_ok {h : Hp} {a t n : Nat} (hk : hpK h a = some (t, n)) : alen h (some a) t = some (Int32.ofNat n) := by simp [alen, hk]
theorem bnd_some {α β : Type} (x : α) (h : Hp) (f : α → Hp → Option β) : bnd (some (x, h)) f = f x h := rfl
theorem nar0 : vp_nar .boolean 0 = 0 := by decide
theorem nar1 : vp_nar .boolean 1 = 1 := by decide
/-! small whole numbers -/
theorem ni_in {k n : Nat} (hk : k < n) (hn : n < 2147483648) : vp_in (nI k) n := vp_in_nI hk (Nat.lt_of_lt_of_le hn (by decide))
theorem ni_cl {k : Nat} (hk : k < 2147483648) : (nI k).toNatClampNeg = k := nI_clamp (Nat.lt_of_lt_of_le hk (by decide))
theorem ni_add (a b : Nat) : nI a + nI b = nI (a + b) := by
  unfold nI
  simp [Int32.ofNat_add]
theorem ni_mul (a b : Nat) : nI a * nI b = nI (a * b) := by
  unfold nI
  simp [Int32.ofNat_mul]
theorem ni_toInt {a : Nat} (h : a < 2147483648) : (nI a).toInt = (a : Int) := by
  unfold nI
  exact Int32.toInt_ofNat_of_lt (by omega)
theorem ni_sub {a b : Nat} (h : b ≤ a) : nI a - nI b = nI (a - b) := by
  have : nI a = nI (a - b) + nI b := by rw [ni_add]; congr 1; omega
  rw [this, Int32.add_sub_cancel]
theorem ni_le {a b : Nat} (ha : a < 2147483648) (hb : b < 2147483648) : (nI a ≤ nI b) ↔ a ≤ b := by
  rw [Int32.le_iff_toInt_le, ni_toInt ha, ni_toInt hb]
  omega
theorem ni_lt {a b : Nat} (ha : a < 2147483648) (hb : b < 2147483648) : (nI a < nI b) ↔ a < b := by
  rw [Int32.lt_iff_toInt_lt, ni_toInt ha, ni_toInt hb]
  omega
theorem ni_eq {a b : Nat} (ha : a < 2147483648) (hb : b < 2147483648) : (nI a = nI b) ↔ a = b := by
  constructor
  · intro h
    have := congrArg Int32.toInt h
    rw [ni_toInt ha, ni_toInt hb] at this
    omega
  · rintro rfl
    rfl
/-- an int that isn't negative is a small whole number -/
theorem ni_of {x : Int32} (h : 0 ≤ x) : ∃ k, k < 2147483648 ∧ x = nI k := by
  have h0 : (0 : Int) ≤ x.toInt := by simpa using Int32.le_iff_toInt_le.mp h
  have h1 : x.toInt < 2147483648 := by have := Int32.toInt_lt x; omega
  refine ⟨x.toInt.toNat, by omega, ?_⟩
  have e : (nI x.toInt.toNat).toInt = x.toInt := by rw [ni_toInt (by omega)]; omega
  exact (Int32.toInt_inj.mp e).symm
theorem ni_of2 {x : Int32} {n : Nat} (hn : n < 2147483648) (h : 0 ≤ x) (h2 : x ≤ nI n) : ∃ k, k ≤ n ∧ x = nI k := by
  obtain ⟨k, hk, rfl⟩ := ni_of h
  exact ⟨k, (ni_le hk hn).mp h2, rfl⟩
theorem ni_of3 {x : Int32} {n : Nat} (hn : n < 2147483648) (h : 0 ≤ x) (h2 : x < nI n) : ∃ k, k < n ∧ x = nI k := by
  obtain ⟨k, hk, rfl⟩ := ni_of h
  exact ⟨k, (ni_lt hk hn).mp h2, rfl⟩
