/-! ===== records under single writes ===== -/
theorem rr_I1 {h : Hp} {m s n o : Nat} {A : RecT} (v : Int32) (ho : 14 ≤ o) (ho2 : o ≤ 21) (R : RR h m s n A) : RR (stI h (m + o) s v) m s n (uI A o (fun _ => v)) := by
  obtain ⟨r1, r2, r3, r4, r5, r6, r7, r8, r9⟩ := R
  refine ⟨fun q a b => ?_, ?_, r3, r4, r5, r6, fun q a b j hj => ?_, fun j hj => ?_, ?_⟩
  · rw [uI_1]
    by_cases e : q = o
    · subst e; rw [hpI_stI_self, if_pos rfl]
    · rw [if_neg e, hpI_stI_ne (Or.inl (by omega))]; exact r1 q a b
  · rw [uI_1, if_neg (by omega), hpI_stI_ne (Or.inl (by omega))]; exact r2
  · rw [uI_1, if_neg (by omega), hpI_stI_ne (Or.inl (by omega))]; exact r7 q a b j hj
  · rw [uI_1, if_neg (by omega), hpI_stI_ne (Or.inl (by omega))]; exact r8 j hj
  · rw [uI_1, if_neg (by omega), uI_1, if_neg (by omega)]; exact r9
theorem rr_D1 {h : Hp} {m s n o : Nat} {A : RecT} (v : UInt64) (ho : 24 ≤ o) (ho2 : o ≤ 28) (R : RR h m s n A) : RR (stD h (m + o) s v) m s n (uD A o (fun _ => v)) := by
  obtain ⟨r1, r2, r3, r4, r5, r6, r7, r8, r9⟩ := R
  refine ⟨r1, r2, fun q a b => ?_, ?_, ?_, fun i hi => ?_, r7, fun j hj => ⟨(r8 j hj).1, ?_⟩, fun z => ?_⟩
  · rw [uD_2]
    by_cases e : q = o
    · subst e; rw [hpD_stD_self, if_pos rfl]
    · rw [if_neg e, hpD_stD_ne (Or.inl (by omega))]; exact r3 q a b
  · rw [uD_2, if_neg (by omega), hpD_stD_ne (Or.inl (by omega))]; exact r4
  · rw [uD_2, if_neg (by omega), hpD_stD_ne (Or.inl (by omega))]; exact r5
  · rw [uD_2, if_neg (by omega), hpD_stD_ne (Or.inl (by omega))]; exact r6 i hi
  · rw [uD_2, if_neg (by omega), hpD_stD_ne (Or.inl (by omega))]; exact (r8 j hj).2
  · obtain ⟨q1, q2, q3⟩ := r9 z
    have s4 := (sgN_le (tc (A.1 36 0))).2
    refine ⟨fun q a b i hi => ?_, fun j hj i hi => ?_, fun w i hi => ?_⟩
    · rw [uD_2, if_neg (by omega), hpD_stD_ne (Or.inl (by omega))]; exact q1 q a b i hi
    · have hj' : j < sgN (tc (A.1 36 0)) := hj
      rw [uD_2, if_neg (by omega), hpD_stD_ne (Or.inl (by omega))]; exact q2 j hj i hi
    · rw [uD_2, if_neg (by omega), hpD_stD_ne (Or.inl (by omega))]; exact q3 w i hi
theorem rr_X {h : Hp} {m s n k : Nat} {A : RecT} (v : UInt64) (hk : k < 6) (R : RR h m s n A) : RR (stD h (m + 29) (6 * s + k) v) m s n (uD A 29 (up1 (A.2 29) k v)) := by
  obtain ⟨r1, r2, r3, r4, r5, r6, r7, r8, r9⟩ := R
  refine ⟨r1, r2, fun q a b => ?_, ?_, ?_, fun i hi => ?_, r7, fun j hj => ⟨(r8 j hj).1, ?_⟩, fun z => ?_⟩
  · rw [uD_2, if_neg (by omega), hpD_stD_ne (Or.inl (by omega))]; exact r3 q a b
  · rw [uD_2, if_neg (by omega), hpD_stD_ne (Or.inl (by omega))]; exact r4
  · rw [uD_2, if_neg (by omega), hpD_stD_ne (Or.inl (by omega))]; exact r5
  · rw [uD_2, if_pos rfl]
    by_cases e : i = k
    · subst e; rw [hpD_stD_self, up1_self]
    · rw [hpD_stD_ne (Or.inr (by omega)), up1_ne e]; exact r6 i hi
  · rw [uD_2, if_neg (by omega), hpD_stD_ne (Or.inl (by omega))]; exact (r8 j hj).2
  · obtain ⟨q1, q2, q3⟩ := r9 z
    refine ⟨fun q a b i hi => ?_, fun j hj i hi => ?_, fun w i hi => ?_⟩
    · rw [uD_2, if_neg (by omega), hpD_stD_ne (Or.inl (by omega))]; exact q1 q a b i hi
    · rw [uD_2, if_neg (by omega), hpD_stD_ne (Or.inl (by omega))]; exact q2 j hj i hi
    · rw [uD_2, if_neg (by omega), hpD_stD_ne (Or.inl (by omega))]; exact q3 w i hi
theorem rr_E {h : Hp} {m s n o k : Nat} {A : RecT} (v : Int32) (ho : 30 ≤ o) (ho2 : o ≤ 33) (hk : k < 4) (R : RR h m s n A) : RR (stI h (m + o) (4 * s + k) v) m s n (uI A o (up1 (A.1 o) k v)) := by
  obtain ⟨r1, r2, r3, r4, r5, r6, r7, r8, r9⟩ := R
  refine ⟨fun q a b => ?_, ?_, r3, r4, r5, r6, fun q a b j hj => ?_, fun j hj => ?_, ?_⟩
  · rw [uI_1, if_neg (by omega), hpI_stI_ne (Or.inl (by omega))]; exact r1 q a b
  · rw [uI_1, if_neg (by omega), hpI_stI_ne (Or.inl (by omega))]; exact r2
  · rw [uI_1]
    by_cases e : q = o
    · subst e
      rw [if_pos rfl]
      by_cases e2 : j = k
      · subst e2; rw [hpI_stI_self, up1_self]
      · rw [hpI_stI_ne (Or.inr (by omega)), up1_ne e2]; exact r7 q a b j hj
    · rw [if_neg e, hpI_stI_ne (Or.inl (by omega))]; exact r7 q a b j hj
  · rw [uI_1, if_neg (by omega), hpI_stI_ne (Or.inl (by omega))]; exact r8 j hj
  · rw [uI_1, if_neg (by omega), uI_1, if_neg (by omega)]; exact r9
theorem rr_F {h : Hp} {m s n k : Nat} {A : RecT} (v : Int32) (w : UInt64) (hk : k < 64) (R : RR h m s n A) : RR (stD (stI h (m + 34) (64 * s + k) v) (m + 35) (64 * s + k) w) m s n (uD (uI A 34 (up1 (A.1 34) k v)) 35 (up1 (A.2 35) k w)) := by
  obtain ⟨r1, r2, r3, r4, r5, r6, r7, r8, r9⟩ := R
  refine ⟨fun q a b => ?_, ?_, fun q a b => ?_, ?_, ?_, fun i hi => ?_, fun q a b j hj => ?_, fun j hj => ⟨?_, ?_⟩, ?_⟩
  · rw [uD_1, uI_1, if_neg (by omega), hpI_stD, hpI_stI_ne (Or.inl (by omega))]; exact r1 q a b
  · rw [uD_1, uI_1, if_neg (by omega), hpI_stD, hpI_stI_ne (Or.inl (by omega))]; exact r2
  · rw [uD_2, if_neg (by omega), hpD_stD_ne (Or.inl (by omega)), hpD_stI, uI_2]; exact r3 q a b
  · rw [uD_2, if_neg (by omega), hpD_stD_ne (Or.inl (by omega)), hpD_stI, uI_2]; exact r4
  · rw [uD_2, if_neg (by omega), hpD_stD_ne (Or.inl (by omega)), hpD_stI, uI_2]; exact r5
  · rw [uD_2, if_neg (by omega), hpD_stD_ne (Or.inl (by omega)), hpD_stI, uI_2]; exact r6 i hi
  · rw [uD_1, uI_1, if_neg (by omega), hpI_stD, hpI_stI_ne (Or.inl (by omega))]; exact r7 q a b j hj
  · rw [uD_1, uI_1, if_pos rfl, hpI_stD]
    by_cases e : j = k
    · subst e; rw [hpI_stI_self, up1_self]
    · rw [hpI_stI_ne (Or.inr (by omega)), up1_ne e]; exact (r8 j hj).1
  · rw [uD_2, if_pos rfl]
    by_cases e : j = k
    · subst e; rw [hpD_stD_self, up1_self]
    · rw [hpD_stD_ne (Or.inr (by omega)), hpD_stI, up1_ne e]; exact (r8 j hj).2
  · rw [uD_1, uI_1, if_neg (by omega)]
    intro z
    obtain ⟨q1, q2, q3⟩ := r9 z
    refine ⟨fun q a b i hi => ?_, fun j hj i hi => ?_, fun w i hi => ?_⟩
    · rw [uD_2, if_neg (by omega), hpD_stD_ne (Or.inl (by omega)), hpD_stI, uI_2]; exact q1 q a b i hi
    · rw [uI_1, if_neg (by omega)] at hj
      rw [uD_2, if_neg (by omega), hpD_stD_ne (Or.inl (by omega)), hpD_stI, uI_2]; exact q2 j hj i hi
    · rw [uI_1, if_neg (by omega)] at w
      rw [uD_2, if_neg (by omega), hpD_stD_ne (Or.inl (by omega)), hpD_stI, uI_2]; exact q3 w i hi
/-- the states as a whole row -/
theorem rr_xs {h : Hp} {m s n : Nat} {A : RecT} {f g : Nat → UInt64} (hfg : ∀ i, i < n → f i = g i) (R : RR h m s n (uD A 29 f)) : RR h m s n (uD A 29 g) := by
  obtain ⟨r1, r2, r3, r4, r5, r6, r7, r8, r9⟩ := R
  refine ⟨r1, r2, fun q a b => ?_, r4, r5, fun i hi => ?_, r7, r8, fun z => ?_⟩
  · have := r3 q a b
    rw [uD_2, if_neg (by omega)] at this ⊢; exact this
  · have := r6 i hi
    rw [uD_2, if_pos rfl] at this ⊢
    rw [this, hfg i hi]
  · obtain ⟨q1, q2, q3⟩ := r9 z
    refine ⟨fun q a b i hi => ?_, fun j hj i hi => ?_, fun w i hi => ?_⟩
    · have := q1 q a b i hi
      rw [uD_2, if_neg (by omega)] at this ⊢; exact this
    · have := q2 j hj i hi
      rw [uD_2, if_neg (by omega)] at this ⊢; exact this
    · have := q3 w i hi
      rw [uD_2, if_neg (by omega)] at this ⊢; exact this
/-! ===== an event fires ===== -/
def thS (A : RecT) (hi : UInt64) : UInt64 := FP.dadd (A.2 37 0) (FP.dmul hi (A.2 38 0))
def fi1 (A : RecT) (j : Nat) (hi : UInt64) : RecT := if 64 ≤ A.1 20 0 then A else uD (uI A 34 (up1 (A.1 34) (tc (A.1 20 0)) (nI j))) 35 (up1 (A.2 35) (tc (A.1 20 0)) (thS A hi))
def fi2 (A : RecT) : RecT := uI A 20 (fun _ => A.1 20 0 + 1)
def fi3 (A : RecT) (nar : Int32) (hi : UInt64) : RecT := if cl hi FP.dconst1 = 0 then A else uD (uD A 29 (cuS A nar hi)) 24 (fun _ => thS A hi)
def fi4 (A : RecT) (act : Int32) : RecT := if act = 1 then uI A 21 (fun _ => 1) else A
def fiw (n : Nat) (v : Int32) : Nat := if v < 0 then 0 else if nI n ≤ v then 0 else tc v
def fi5 (A : RecT) (n : Nat) (act v : Int32) : RecT := if act = 2 then uD A 29 (up1 (A.2 29) (fiw n v) (cn (FP.dneg (A.2 29 (fiw n v))))) else A
def fiS (A : RecT) (nar : Int32) (n j : Nat) (hi : UInt64) : RecT := if A.1 32 j = 0 then fi2 (fi1 A j hi) else fi5 (fi4 (fi3 (fi2 (fi1 A j hi)) nar hi) (A.1 32 j)) n (A.1 32 j) (A.1 33 j)
theorem fi1_1 {A : RecT} {j k : Nat} {hi : UInt64} (h : k ≠ 34) : (fi1 A j hi).1 k = A.1 k := by
  unfold fi1; split
  · rfl
  · rw [uD_1, uI_1, if_neg h]
theorem fi1_2 {A : RecT} {j k : Nat} {hi : UInt64} (h : k ≠ 35) : (fi1 A j hi).2 k = A.2 k := by
  unfold fi1; split
  · rfl
  · rw [uD_2, if_neg h, uI_2]
theorem fi2_1 {A : RecT} {k : Nat} (h : k ≠ 20) : (fi2 A).1 k = A.1 k := by unfold fi2; rw [uI_1, if_neg h]
theorem fi3_2 {A : RecT} {nar : Int32} {k : Nat} {hi : UInt64} (h : k ≠ 29) (h2 : k ≠ 24) : (fi3 A nar hi).2 k = A.2 k := by
  unfold fi3; split
  · rfl
  · rw [uD_2, if_neg h2, uD_2, if_neg h]
theorem fi3_1 {A : RecT} {nar : Int32} {hi : UInt64} : (fi3 A nar hi).1 = A.1 := by unfold fi3; split <;> rfl
theorem fi4_1 {A : RecT} {act : Int32} {k : Nat} (h : k ≠ 21) : (fi4 A act).1 k = A.1 k := by
  unfold fi4; split
  · rw [uI_1, if_neg h]
  · rfl
theorem fi4_2 {A : RecT} {act : Int32} : (fi4 A act).2 = A.2 := by unfold fi4; split <;> rfl
theorem fi5_1 {A : RecT} {n : Nat} {act v : Int32} : (fi5 A n act v).1 = A.1 := by unfold fi5; split <;> rfl
theorem fi5_2 {A : RecT} {n k : Nat} {act v : Int32} (h : k ≠ 29) : (fi5 A n act v).2 k = A.2 k := by
  unfold fi5; split
  · rw [uD_2, if_neg h]
  · rfl
theorem fiS_1 {A : RecT} {nar : Int32} {n j k : Nat} {hi : UInt64} (h1 : k ≠ 34) (h2 : k ≠ 20) (h3 : k ≠ 21) : (fiS A nar n j hi).1 k = A.1 k := by
  unfold fiS; split
  · rw [fi2_1 h2, fi1_1 h1]
  · rw [fi5_1, fi4_1 h3, fi3_1, fi2_1 h2, fi1_1 h1]
theorem fiS_2 {A : RecT} {nar : Int32} {n j k : Nat} {hi : UInt64} (h1 : k ≠ 35) (h2 : k ≠ 29) (h3 : k ≠ 24) : (fiS A nar n j hi).2 k = A.2 k := by
  unfold fiS; split
  · show (fi1 A j hi).2 k = _; rw [fi1_2 h1]
  · rw [fi5_2 h2, fi4_2, fi3_2 h2 h3]; show (fi1 A j hi).2 k = _; rw [fi1_2 h1]
theorem fiS_20 {A : RecT} {nar : Int32} {n j : Nat} {hi : UInt64} : (fiS A nar n j hi).1 20 0 = A.1 20 0 + 1 := by
  have e : (fi2 (fi1 A j hi)).1 20 0 = A.1 20 0 + 1 := by unfold fi2; rw [uI_1, if_pos rfl, fi1_1 (by decide)]
  unfold fiS; split
  · exact e
  · rw [fi5_1, fi4_1 (by decide), fi3_1]; exact e
theorem cuS_dep {A B : RecT} {nar : Int32} {s : UInt64} (h : ∀ k, k = 38 ∨ k = 39 ∨ k = 40 ∨ k = 41 ∨ k = 42 → B.2 k = A.2 k) : cuS B nar s = cuS A nar s := by
  funext i
  unfold cuS cuM
  rw [h 38 (by omega), h 39 (by omega), h 40 (by omega), h 41 (by omega), h 42 (by omega)]
theorem vs_dep {h0 : Hp} {m s n l ns N : Nat} {A B : RecT} (W : VS h0 m s n l ns N A) (h1 : B.1 22 = A.1 22) (h2 : B.1 14 = A.1 14) (h : ∀ k, k = 37 ∨ k = 38 ∨ k = 39 ∨ k = 40 → B.2 k = A.2 k) : VS h0 m s n l ns N B := by
  obtain ⟨w0, w1, w2, w3, w4, w5, w6, w7⟩ := W
  exact ⟨w0, w1, by rw [h1]; exact w2, by rw [h2]; exact w3, by rw [h 38 (by omega)]; exact w4, by rw [h 37 (by omega)]; exact w5, by rw [h 39 (by omega)]; exact w6, by rw [h 40 (by omega)]; exact w7⟩
