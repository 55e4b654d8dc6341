/-! ===== a run of the class tells what a record tells ===== -/
def CR (h : Hp) (r n : Nat) (A : RecT) : Prop :=
  hpD h r 1 = A.2 24 0 ∧ hpI h r 3 = A.1 15 0 ∧ hpD h r 4 = A.2 25 0 ∧ hpD h r 5 = A.2 26 0 ∧ hpD h r 6 = A.2 27 0 ∧ hpI h r 7 = A.1 21 0 ∧ hpI h r 8 = A.1 17 0 ∧ hpI h r 9 = A.1 18 0 ∧
  (∀ i, i < n → RV h (r + 1) i = A.2 29 i) ∧
  hpI h (r + 4) 0 = A.1 16 0 ∧ hpI h (r + 4) 6 = A.1 20 0 ∧
  (∀ j, j < 4 → hpI h (r + 5) j = A.1 30 j ∧ hpI h (r + 6) j = A.1 31 j ∧ hpI h (r + 7) j = A.1 32 j ∧ hpI h (r + 8) j = A.1 33 j) ∧
  (∀ j, j < 64 → hpI h (r + 10) j = A.1 34 j ∧ hpD h (r + 11) j = A.2 35 j) ∧
  hpD h (r + 12) 12 = A.2 28 0 ∧ hpI h (r + 12) 13 = A.1 19 0 ∧ hpD h (r + 12) 4 = A.2 38 0 ∧
  (A.1 22 0 = 1 → hpR h (r + 12) 1 = hpR h r 0 ∧ hpI h (r + 12) 2 = A.1 36 0 ∧ SA h (r + 12) n A ∧ hpD h (r + 12) 5 = FP.dadd (A.2 37 0) (A.2 38 0) ∧ (∀ j, j < sgN (tc (A.1 36 0)) → ∀ i, i < n → RV h (r + 12 + (11 + 3 * j)) i = A.2 (100 + j) i) ∧ (tc (A.1 36 0) = 4 → ∀ i, i < n → RV h (r + 12 + 23) i = A.2 104 i))
/-- where a record isn't told: highs and the workplace y -/
theorem cr_fr {P : Nat → Prop} {h h' : Hp} {r n : Nat} {A : RecT} (C : CR h r n A) (F : Fr P h h') (hP : ∀ a, r ≤ a → a < r + 41 → a ≠ r + 9 → a ≠ r + 17 → a ≠ r + 18 → ¬ P a) : CR h' r n A := by
  have q : ∀ o, o < 41 → o ≠ 9 → o ≠ 17 → o ≠ 18 → hpI h' (r + o) = hpI h (r + o) ∧ hpD h' (r + o) = hpD h (r + o) := fun o h1 h2 h3 h4 => F.2.2.2 _ (hP _ (by omega) (by omega) (by omega) (by omega) (by omega))
  have q0I : hpI h' r = hpI h r := (q 0 (by omega) (by omega) (by omega) (by omega)).1
  have q0D : hpD h' r = hpD h r := (q 0 (by omega) (by omega) (by omega) (by omega)).2
  have rv1 : RV h' (r + 1) = RV h (r + 1) := fr_RV F (hP _ (by omega) (by omega) (by omega) (by omega) (by omega)) (hP _ (by omega) (by omega) (by omega) (by omega) (by omega))
  have rv : ∀ o, IsR o → o ≠ 4 → RV h' (r + 12 + o) = RV h (r + 12 + o) := fun o ho h4 => by
    have h1 := isr_le ho
    have h2 := isr_ne ho i4 h4
    exact fr_RV F (hP _ (by omega) (by omega) (by omega) (by omega) (by omega)) (hP _ (by omega) (by omega) (by omega) (by omega) (by omega))
  obtain ⟨c1, c2, c3, c4, c5, c6, c7, c8, c9, c10, c11, c12, c13, c14, c15, c16, c17⟩ := C
  refine ⟨by rw [q0D]; exact c1, by rw [q0I]; exact c2, by rw [q0D]; exact c3, by rw [q0D]; exact c4, by rw [q0D]; exact c5, by rw [q0I]; exact c6, by rw [q0I]; exact c7, by rw [q0I]; exact c8, by rw [rv1]; exact c9, by rw [(q 4 (by omega) (by omega) (by omega) (by omega)).1]; exact c10, by rw [(q 4 (by omega) (by omega) (by omega) (by omega)).1]; exact c11, fun j hj => ?_, fun j hj => ?_, by rw [(q 12 (by omega) (by omega) (by omega) (by omega)).2]; exact c14, by rw [(q 12 (by omega) (by omega) (by omega) (by omega)).1]; exact c15, by rw [(q 12 (by omega) (by omega) (by omega) (by omega)).2]; exact c16, fun st => ?_⟩
  · rw [(q 5 (by omega) (by omega) (by omega) (by omega)).1, (q 6 (by omega) (by omega) (by omega) (by omega)).1, (q 7 (by omega) (by omega) (by omega) (by omega)).1, (q 8 (by omega) (by omega) (by omega) (by omega)).1]; exact c12 j hj
  · rw [(q 10 (by omega) (by omega) (by omega) (by omega)).1, (q 11 (by omega) (by omega) (by omega) (by omega)).2]; exact c13 j hj
  · obtain ⟨d1, d2, d3, d4, d5, d6⟩ := c17 st
    refine ⟨by rw [F.2.2.1]; exact d1, by rw [(q 12 (by omega) (by omega) (by omega) (by omega)).1]; exact d2, ⟨by rw [(q 12 (by omega) (by omega) (by omega) (by omega)).2]; exact d3.1, by rw [(q 12 (by omega) (by omega) (by omega) (by omega)).2]; exact d3.2.1, fun i hi => by rw [rv 1 i1 (by omega), rv 7 i7 (by omega), rv 11 i11 (by omega), rv 26 i26 (by omega)]; exact d3.2.2 i hi⟩, by rw [(q 12 (by omega) (by omega) (by omega) (by omega)).2]; exact d4, fun j hj i hi => by rw [rv (11 + 3 * j) (isr_k (by have := sgN_le (tc (A.1 36 0)); omega)) (by omega)]; exact d5 j hj i hi, fun e i hi => by rw [rv 23 i23 (by omega)]; exact d6 e i hi⟩
def plv (hv : Nat → UInt64) : Option Nat → UInt64
  | none => c2
  | some k => hv k
theorem c_earliest {h : Hp} {r k ne : Nat} {hv : Nat → UInt64} (B : RB h r k) (en : hpI h (r + 4) 0 = nI ne) (hn : ne ≤ 4) (hh : ∀ j, j < ne → hpD h (r + 9) j = hv j ∧ Nm (hv j)) : f_X0_earliest (r + 4) h = some (nxV (pkS hv ne), h) := by
  have n2 : Nm c2 := fn_c2.nm
  have lv : ∀ i, i ≤ ne → Nm (plv hv (pkS hv i)) := fun i hi => by
    cases e : pkS hv i with
    | none => exact n2
    | some k => exact (hh k (by have := (pkS_some e).1; omega)).2
  have key : ∀ (d i fuel : Nat), i + d = ne → d < fuel → f_X0_earliest_9 fuel (some (r + 4)) (nxV (pkS hv i)) (plv hv (pkS hv i)) (nI i) h = some (nxV (pkS hv ne), h) := by
    intro d
    induction d with
    | zero =>
      intro i fuel hi hf
      obtain ⟨fuel, rfl⟩ : ∃ j, fuel = j + 1 := ⟨fuel - 1, by omega⟩
      have : i = ne := by omega
      subst this
      rw [f_X0_earliest_9, rb_ei B, Option.bind_some, en, if_pos ((ni_le (by omega) (by omega)).mpr (Nat.le_refl _))]
    | succ d ih =>
      intro i fuel hi hf
      obtain ⟨fuel, rfl⟩ : ∃ j, fuel = j + 1 := ⟨fuel - 1, by omega⟩
      have ih' := ih (i + 1) fuel (by omega) (by omega)
      obtain ⟨e1, e2⟩ := hh i (by omega)
      have l1 := lv i (by omega)
      rw [f_X0_earliest_9, rb_ei B, Option.bind_some, en, if_neg (by rw [ni_le (by omega) (by omega)]; omega), rb_e5 B, Option.bind_some, rb_a9 B (by omega), Option.bind_some, e1]
      unfold f_X0_earliest_41
      rw [li1, ni_add]
      have cmp : (0 : Int32) ≤ cg (hv i) (plv hv (pkS hv i)) ↔ ¬ ky (hv i) < ky (plv hv (pkS hv i)) := by
        rw [cg_ge]
        exact ⟨fun z => z.elim (fun w => absurd ⟨e2, l1⟩ w) (fun w => by omega), fun z => Or.inr (by omega)⟩
      cases ep : pkS hv i with
      | none =>
        rw [ep] at cmp
        simp only [pkS, ep] at ih'
        by_cases q : ky (hv i) < ky c2
        · rw [if_neg (fun z => cmp.mp z q)]
          rw [if_pos q] at ih'
          simp only [Option.bind_some, rb_a9 B (show i < 4 by omega), e1]
          exact ih'
        · rw [if_pos (cmp.mpr q)]
          rw [if_neg q] at ih'
          exact ih'
      | some k' =>
        rw [ep] at cmp
        simp only [pkS, ep] at ih'
        by_cases q : ky (hv i) < ky (hv k')
        · rw [if_neg (fun z => cmp.mp z q)]
          rw [if_pos q] at ih'
          simp only [Option.bind_some, rb_a9 B (show i < 4 by omega), e1]
          exact ih'
        · rw [if_pos (cmp.mpr q)]
          rw [if_neg q] at ih'
          exact ih'
  unfold f_X0_earliest
  exact key ne 0 fuelN (by omega) (by unfold fuelN; omega)
/-- an event fires -/
def fiH (h : Hp) (r j f : Nat) (t : UInt64) : Hp := stI (if 64 ≤ nI f then stD h (r + 9) j c2 else stD (stI (stD h (r + 9) j c2) (r + 10) f (nI j)) (r + 11) f t) (r + 4) 6 (nI f + 1)
theorem c_fire {h : Hp} {r k j f : Nat} {t : UInt64} (B : RB h r k) (hj : j < 4) (ef : hpI h (r + 4) 6 = nI f) (hf : f < 1000000) : f_X0_fire (r + 4) (nI j) t h = some ((), fiH h r j f t) := by
  have K : hpK h (r + 4) = some (0, 0) := rb_eK B
  have B2 : RB (stD h (r + 9) j c2) r k := B
  have e2 : hpI (stD h (r + 9) j c2) (r + 4) 6 = nI f := ef
  have i64 : (64 ≤ nI f) ↔ 64 ≤ f := by rw [li64, ni_le (by omega) (by omega)]
  unfold f_X0_fire fiH
  rw [rb_e5 B, Option.bind_some, rb_s9 B hj, Option.bind_some, rb_ei B2, Option.bind_some, e2]
  by_cases q : 64 ≤ nI f
  · rw [if_pos q, if_pos q]
    unfold f_X0_fire_38
    rw [rb_ei B2, Option.bind_some, e2, putI_ok (rb_eK B2), Option.bind_some]
  · rw [if_neg q, if_neg q]
    have f64 : f < 64 := by rw [i64] at q; omega
    have B3 : RB (stI (stD h (r + 9) j c2) (r + 10) f (nI j)) r k := B
    have B4 : RB (stD (stI (stD h (r + 9) j c2) (r + 10) f (nI j)) (r + 11) f t) r k := B
    have e3 : hpI (stI (stD h (r + 9) j c2) (r + 10) f (nI j)) (r + 4) 6 = nI f := by rw [hpI_stI_ne (Or.inl (by omega))]; exact e2
    have e4 : hpI (stD (stI (stD h (r + 9) j c2) (r + 10) f (nI j)) (r + 11) f t) (r + 4) 6 = nI f := e3
    rw [rb_e7 B2, Option.bind_some, Option.bind_some, astI_ok (rb_k10 B2) (ni_in f64 (by omega)), ni_cl (by omega), Option.bind_some, rb_e8 B3, Option.bind_some, rb_ei B3, Option.bind_some, e3, astD_ok (rb_k11 B3) (ni_in f64 (by omega)), ni_cl (by omega), Option.bind_some]
    unfold f_X0_fire_38
    rw [rb_ei B4, Option.bind_some, e4, putI_ok (rb_eK B4), Option.bind_some]
theorem fr_fiH {h : Hp} {r j f : Nat} {t : UInt64} : Fr (fun a => a = r + 4 ∨ a = r + 9 ∨ a = r + 10 ∨ a = r + 11) h (fiH h r j f t) := by
  unfold fiH
  split
  · exact fr_stI (fr_stD (Fr.refl _ h) (Or.inr (Or.inl rfl))) (Or.inl rfl)
  · exact fr_stI (fr_stD (fr_stI (fr_stD (Fr.refl _ h) (Or.inr (Or.inl rfl))) (Or.inr (Or.inr (Or.inl rfl)))) (Or.inr (Or.inr (Or.inr rfl)))) (Or.inl rfl)
theorem cr_fire {h : Hp} {r n j f : Nat} {A : RecT} {hi : UInt64} (C : CR h r n A) (ef : A.1 20 0 = nI f) (hf : f < 1000000) : CR (fiH h r j f (thS A hi)) r n (fi2 (fi1 A j hi)) := by
  have F := fr_fiH (h := h) (r := r) (j := j) (f := f) (t := thS A hi)
  have q : ∀ o, o ≠ 4 → o ≠ 9 → o ≠ 10 → o ≠ 11 → hpI (fiH h r j f (thS A hi)) (r + o) = hpI h (r + o) ∧ hpD (fiH h r j f (thS A hi)) (r + o) = hpD h (r + o) := fun o h1 h2 h3 h4 => F.2.2.2 _ (by omega)
  have q0I : hpI (fiH h r j f (thS A hi)) r = hpI h r := (q 0 (by omega) (by omega) (by omega) (by omega)).1
  have q0D : hpD (fiH h r j f (thS A hi)) r = hpD h r := (q 0 (by omega) (by omega) (by omega) (by omega)).2
  have rv1 : RV (fiH h r j f (thS A hi)) (r + 1) = RV h (r + 1) := fr_RV F (by omega) (by omega)
  have rv : ∀ o, IsR o → RV (fiH h r j f (thS A hi)) (r + 12 + o) = RV h (r + 12 + o) := fun o ho => by
    have h1 := isr_le ho
    exact fr_RV F (by omega) (by omega)
  have i64 : (64 ≤ nI f) ↔ 64 ≤ f := by rw [li64, ni_le (by omega) (by omega)]
  obtain ⟨c1, c2', c3, c4, c5, c6, c7, c8, c9, c10, c11, c12, c13, c14, c15, c16, c17⟩ := C
  have a1 : ∀ o, o ≠ 34 → o ≠ 20 → (fi2 (fi1 A j hi)).1 o = A.1 o := fun o h1 h2 => by rw [fi2_1 h2, fi1_1 h1]
  have a2 : ∀ o, o ≠ 35 → (fi2 (fi1 A j hi)).2 o = A.2 o := fun o h1 => fi1_2 h1
  refine ⟨by rw [q0D, a2 24 (by omega)]; exact c1, by rw [q0I, a1 15 (by omega) (by omega)]; exact c2', by rw [q0D, a2 25 (by omega)]; exact c3, by rw [q0D, a2 26 (by omega)]; exact c4, by rw [q0D, a2 27 (by omega)]; exact c5, by rw [q0I, a1 21 (by omega) (by omega)]; exact c6, by rw [q0I, a1 17 (by omega) (by omega)]; exact c7, by rw [q0I, a1 18 (by omega) (by omega)]; exact c8, by rw [rv1, a2 29 (by omega)]; exact c9, ?_, ?_, fun i hi' => ?_, fun i hi' => ?_, by rw [(q 12 (by omega) (by omega) (by omega) (by omega)).2, a2 28 (by omega)]; exact c14, by rw [(q 12 (by omega) (by omega) (by omega) (by omega)).1, a1 19 (by omega) (by omega)]; exact c15, by rw [(q 12 (by omega) (by omega) (by omega) (by omega)).2, a2 38 (by omega)]; exact c16, fun st => ?_⟩
  · rw [a1 16 (by omega) (by omega)]
    unfold fiH
    rw [hpI_stI_ne (Or.inr (by omega))]
    split
    · exact c10
    · rw [hpI_stD, hpI_stI_ne (Or.inl (by omega))]; exact c10
  · unfold fiH fi2
    rw [hpI_stI_self, uI_1, if_pos rfl, fi1_1 (by omega), ef]
  · rw [(q 5 (by omega) (by omega) (by omega) (by omega)).1, (q 6 (by omega) (by omega) (by omega) (by omega)).1, (q 7 (by omega) (by omega) (by omega) (by omega)).1, (q 8 (by omega) (by omega) (by omega) (by omega)).1, a1 30 (by omega) (by omega), a1 31 (by omega) (by omega), a1 32 (by omega) (by omega), a1 33 (by omega) (by omega)]; exact c12 i hi'
  · have s1 : (fi2 (fi1 A j hi)).1 34 = (fi1 A j hi).1 34 := fi2_1 (by omega)
    have s2 : (fi2 (fi1 A j hi)).2 35 = (fi1 A j hi).2 35 := rfl
    rw [s1, s2]
    unfold fiH fi1
    rw [ef, hpI_stI_row (by omega), hpD_stI]
    by_cases z : 64 ≤ nI f
    · rw [if_pos z, if_pos z, hpI_stD, hpD_stD_row (by omega)]; exact c13 i hi'
    · rw [if_neg z, if_neg z, hpI_stD, uD_1, uD_2, if_pos rfl, uI_1, if_pos rfl, show tc (nI f) = f from ni_cl (by omega)]
      by_cases e : i = f
      · subst e
        rw [hpI_stI_self, hpD_stD_self, up1_self, up1_self]
        exact ⟨rfl, rfl⟩
      · rw [hpI_stI_ne (Or.inr e), hpI_stD, hpD_stD_ne (Or.inr e), hpD_stI, hpD_stD_row (by omega), up1_ne e, up1_ne e]
        exact c13 i hi'
  · have st' : A.1 22 0 = 1 := by rw [← st, a1 22 (by omega) (by omega)]
    obtain ⟨d1, d2, d3, d4, d5, d6⟩ := c17 st'
    have w12I := (q 12 (by omega) (by omega) (by omega) (by omega)).1
    have w12D := (q 12 (by omega) (by omega) (by omega) (by omega)).2
    refine ⟨by rw [F.2.2.1]; exact d1, by rw [w12I, a1 36 (by omega) (by omega)]; exact d2, ⟨by rw [w12D, a2 37 (by omega)]; exact d3.1, by rw [w12D, a2 38 (by omega)]; exact d3.2.1, fun i hi' => by rw [rv 1 i1, rv 7 i7, rv 11 i11, rv 26 i26, a2 39 (by omega), a2 40 (by omega), a2 41 (by omega), a2 42 (by omega)]; exact d3.2.2 i hi'⟩, by rw [w12D, a2 37 (by omega), a2 38 (by omega)]; exact d4, fun jj hj i hi' => ?_, fun e i hi' => ?_⟩
    · rw [a1 36 (by omega) (by omega)] at hj
      rw [rv (11 + 3 * jj) (isr_k (by have := sgN_le (tc (A.1 36 0)); omega)), a2 (100 + jj) (by omega)]; exact d5 jj hj i hi'
    · rw [a1 36 (by omega) (by omega)] at e
      rw [rv 23 i23, a2 104 (by omega)]; exact d6 e i hi'
