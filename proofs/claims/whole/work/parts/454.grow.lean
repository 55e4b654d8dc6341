/-! ===== the heap grows ===== -/
def Gr (D : Nat → Prop) (h h' : Hp) : Prop := hpS h ≤ hpS h' ∧ ∀ a, a < hpS h → hpK h' a = hpK h a ∧ (¬ D a → hpI h' a = hpI h a ∧ hpD h' a = hpD h a ∧ hpR h' a = hpR h a)
theorem Gr.trans {D : Nat → Prop} {h h1 h2 : Hp} (a : Gr D h h1) (b : Gr D h1 h2) : Gr D h h2 := ⟨Nat.le_trans a.1 b.1, fun x hx => by
  have a1 := a.2 x hx
  have b1 := b.2 x (Nat.lt_of_lt_of_le hx a.1)
  exact ⟨b1.1.trans a1.1, fun n => ⟨(b1.2 n).1.trans (a1.2 n).1, (b1.2 n).2.1.trans (a1.2 n).2.1, (b1.2 n).2.2.trans (a1.2 n).2.2⟩⟩⟩
theorem Gr.mono {D D' : Nat → Prop} {h h' : Hp} (a : Gr D h h') (hD : ∀ x, x < hpS h → D x → D' x) : Gr D' h h' := ⟨a.1, fun x hx => ⟨(a.2 x hx).1, fun n => (a.2 x hx).2 (fun z => n (hD x hx z))⟩⟩
theorem gr_ux {X : Nat → Prop} {h h' : Hp} (U : Ux X (hpS h) h h') (hs : hpS h ≤ hpS h') : Gr X h h' := ⟨hs, fun a ha => ⟨(U a ha).1, fun n => ⟨(U a ha).2.1, (U a ha).2.2.1, (U a ha).2.2.2 n⟩⟩⟩
theorem gr_fx {P Q D : Nat → Prop} {h h' : Hp} (F : Fx P Q h h') (hP : ∀ a, P a → D a) (hQ : ∀ a, Q a → D a) : Gr D h h' := ⟨by rw [F.1]; exact Nat.le_refl _, fun a _ => ⟨by rw [F.2.1], fun n => ⟨(F.2.2.2 a (fun z => n (hP a z))).1, (F.2.2.2 a (fun z => n (hP a z))).2, F.2.2.1 a (fun z => n (hQ a z))⟩⟩⟩
theorem gr_stI {D : Nat → Prop} {h : Hp} {a j : Nat} {v : Int32} (ha : D a) : Gr D h (stI h a j v) := ⟨Nat.le_refl _, fun x _ => ⟨rfl, fun n => ⟨hpI_stI_row (fun e => n (by rw [e]; exact ha)), rfl, rfl⟩⟩⟩
theorem gr_stD {D : Nat → Prop} {h : Hp} {a j : Nat} {v : UInt64} (ha : D a) : Gr D h (stD h a j v) := ⟨Nat.le_refl _, fun x _ => ⟨rfl, fun n => ⟨rfl, hpD_stD_row (fun e => n (by rw [e]; exact ha)), rfl⟩⟩⟩
theorem gr_stR {D : Nat → Prop} {h : Hp} {a j : Nat} {v : Option Nat} (ha : D a) : Gr D h (stR h a j v) := ⟨Nat.le_refl _, fun x _ => ⟨rfl, fun n => ⟨rfl, rfl, stR_ne (fun e => n (by rw [e]; exact ha))⟩⟩⟩
theorem gr_rw {D : Nat → Prop} {h h' : Hp} {a N : Nat} (G : Gr D h h') (ha : a + 3 ≤ hpS h) (hD : ¬ D a) (r : RW h a N) : RW h' a N := by
  unfold RW
  rw [(G.2 a (by omega)).1, ((G.2 a (by omega)).2 hD).2.2, (G.2 (a + 1) (by omega)).1, (G.2 (a + 2) (by omega)).1]
  exact r
theorem gr_rn {D : Nat → Prop} {h h' : Hp} {a N : Nat} (G : Gr D h h') (ha : a + 3 ≤ hpS h) (h1 : ¬ D (a + 1)) (h2 : ¬ D (a + 2)) (r : RN h a N) : RN h' a N := fun i hi => by
  rw [((G.2 (a + 1) (by omega)).2 h1).2.1, ((G.2 (a + 2) (by omega)).2 h2).1]; exact r i hi
theorem gr_s0 {D : Nat → Prop} {h h' : Hp} {T k : Nat} (G : Gr D h h') (ha : T + 29 ≤ hpS h) (hD : ∀ a, T ≤ a → a < T + 29 → ¬ D a) (S : S0 h T k) : S0 h' T k := by
  obtain ⟨a1, a2, a3, a4, a5, a6, a7, a8, a9, a10, a11⟩ := S
  have q0 := ((G.2 T (by omega)).2 (hD T (by omega) (by omega))).2.2
  have q1 := ((G.2 (T + 10) (by omega)).2 (hD _ (by omega) (by omega))).2.2
  refine ⟨by rw [(G.2 T (by omega)).1]; exact a1, by rw [q0]; exact a2, by rw [q0]; exact a3, by rw [q0]; exact a4, by rw [q0]; exact a5, by rw [q0]; exact a6, by rw [q0]; exact a7, by rw [q0]; exact a8, by rw [(G.2 (T + 10) (by omega)).1]; exact a9, fun j hj => by rw [q1]; exact a10 j hj, fun r hr => ?_⟩
  have hl := isr_le hr
  exact gr_rw G (by omega) (hD _ (by omega) (by omega)) (a11 r hr)
theorem gr_sn {D : Nat → Prop} {h h' : Hp} {T : Nat} (G : Gr D h h') (ha : T + 29 ≤ hpS h) (hD : ∀ a, T ≤ a → a < T + 29 → ¬ D a) (S : SN h T) : SN h' T := fun r hr => by
  have hl := isr_le hr
  exact gr_rn G (by omega) (hD _ (by omega) (by omega)) (hD _ (by omega) (by omega)) (S r hr)
theorem gr_rb {D : Nat → Prop} {h h' : Hp} {r k : Nat} (G : Gr D h h') (ha : r + 41 ≤ hpS h) (hD : ∀ a, r ≤ a → a < r + 41 → ¬ D a) (B : RB h r k) : RB h' r k := by
  obtain ⟨a1, a2, a3, a4, a5, a6, a7, a8, a9, a10, a11, a12, a13, a14⟩ := B
  have K : ∀ o, o < 41 → hpK h' (r + o) = hpK h (r + o) := fun o ho => (G.2 _ (by omega)).1
  have q0 := ((G.2 r (by omega)).2 (hD r (by omega) (by omega))).2.2
  have q4 := ((G.2 (r + 4) (by omega)).2 (hD (r + 4) (by omega) (by omega))).2.2
  exact ⟨by rw [(G.2 r (by omega)).1]; exact a1, by rw [q0]; exact a2, by rw [q0]; exact a3, by rw [q0]; exact a4, gr_rw G (by omega) (hD _ (by omega) (by omega)) a5, by rw [K 4 (by omega)]; exact a6, fun j h1 h2 => by rw [q4]; exact a7 j h1 h2, by rw [q4]; exact a8, by rw [q4]; exact a9, fun j h1 h2 => by rw [K j (by omega)]; exact a10 j h1 h2, by rw [K 9 (by omega)]; exact a11, by rw [K 10 (by omega)]; exact a12, by rw [K 11 (by omega)]; exact a13, gr_s0 G (by omega) (fun a h1 h2 => hD a (by omega) (by omega)) a14⟩
theorem gr_rx {D : Nat → Prop} {h h' : Hp} {r k : Nat} (G : Gr D h h') (ha : r + 41 ≤ hpS h) (hD : ∀ a, r ≤ a → a < r + 41 → ¬ D a) (B : RX h r k) : RX h' r k :=
  ⟨gr_rb G ha hD B.1, gr_rn G (by omega) (hD _ (by omega) (by omega)) (hD _ (by omega) (by omega)) B.2.1, gr_sn G (by omega) (fun a h1 h2 => hD a (by omega) (by omega)) B.2.2⟩
theorem gr_cr {D : Nat → Prop} {h h' : Hp} {r n : Nat} {A : RecT} (C : CR h r n A) (G : Gr D h h') (ha : r + 41 ≤ hpS h) (hD : ∀ a, r ≤ a → a < r + 41 → ¬ D a) : CR h' r n A := by
  have q : ∀ o, o < 41 → hpI h' (r + o) = hpI h (r + o) ∧ hpD h' (r + o) = hpD h (r + o) := fun o h1 => ⟨((G.2 _ (by omega)).2 (hD _ (by omega) (by omega))).1, ((G.2 _ (by omega)).2 (hD _ (by omega) (by omega))).2.1⟩
  have q0I : hpI h' r = hpI h r := (q 0 (by omega)).1
  have q0D : hpD h' r = hpD h r := (q 0 (by omega)).2
  have rv : ∀ o, o + 2 < 41 → RV h' (r + o) = RV h (r + o) := fun o ho => by
    funext i; unfold RV
    rw [show r + o + 1 = r + (o + 1) by omega, show r + o + 2 = r + (o + 2) by omega, (q (o + 1) (by omega)).2, (q (o + 2) (by omega)).1]
  have rvT : ∀ o, IsR o → RV h' (r + 12 + o) = RV h (r + 12 + o) := fun o ho => by
    have := isr_le ho
    rw [show r + 12 + o = r + (12 + o) by omega]; exact rv _ (by omega)
  obtain ⟨c1, c2, c3, c4, c5, c6, c7, c8, c9, c10, c11, c12, c13, c14, c15, c16, c17⟩ := C
  refine ⟨by rw [q0D]; exact c1, by rw [q0I]; exact c2, by rw [q0D]; exact c3, by rw [q0D]; exact c4, by rw [q0D]; exact c5, by rw [q0I]; exact c6, by rw [q0I]; exact c7, by rw [q0I]; exact c8, by rw [rv 1 (by omega)]; exact c9, by rw [(q 4 (by omega)).1]; exact c10, by rw [(q 4 (by omega)).1]; exact c11, fun j hj => ?_, fun j hj => ?_, by rw [(q 12 (by omega)).2]; exact c14, by rw [(q 12 (by omega)).1]; exact c15, by rw [(q 12 (by omega)).2]; exact c16, fun st => ?_⟩
  · rw [(q 5 (by omega)).1, (q 6 (by omega)).1, (q 7 (by omega)).1, (q 8 (by omega)).1]; exact c12 j hj
  · rw [(q 10 (by omega)).1, (q 11 (by omega)).2]; exact c13 j hj
  · obtain ⟨d1, d2, d3, d4, d5, d6⟩ := c17 st
    refine ⟨by rw [((G.2 r (by omega)).2 (hD r (by omega) (by omega))).2.2, ((G.2 (r + 12) (by omega)).2 (hD _ (by omega) (by omega))).2.2]; exact d1, by rw [(q 12 (by omega)).1]; exact d2, ⟨by rw [(q 12 (by omega)).2]; exact d3.1, by rw [(q 12 (by omega)).2]; exact d3.2.1, fun i hi => by rw [rvT 1 i1, rvT 7 i7, rvT 11 i11, rvT 26 i26]; exact d3.2.2 i hi⟩, by rw [(q 12 (by omega)).2]; exact d4, fun j hj i hi => by rw [rvT (11 + 3 * j) (isr_k (by have := sgN_le (tc (A.1 36 0)); omega))]; exact d5 j hj i hi, fun e i hi => by rw [rvT 23 i23]; exact d6 e i hi⟩
theorem gr_lo {D : Nat → Prop} {h h' : Hp} {L k sg n : Nat} (G : Gr D h h') (ha : L + 10 ≤ hpS h) (h0 : ¬ D L) (h6 : ¬ D (L + 6)) (H : LO h L k sg n) : LO h' L k sg n := by
  have K : ∀ o, o < 10 → hpK h' (L + o) = hpK h (L + o) := fun o ho => (G.2 _ (by omega)).1
  have K0 : hpK h' L = hpK h L := K 0 (by omega)
  have r6 := lo_rw H
  have r6' := gr_rw G (by omega) h6 r6
  unfold LO RW at H ⊢
  unfold RW at r6'
  rw [K0, ((G.2 L (by omega)).2 h0).2.2, ((G.2 (L + 6) (by omega)).2 h6).2.2, K 1 (by omega), K 2 (by omega), K 3 (by omega), K 4 (by omega), K 5 (by omega), K 6 (by omega), K 9 (by omega), show L + 6 + 1 = L + 7 from rfl, show L + 6 + 2 = L + 8 from rfl, K 7 (by omega), K 8 (by omega)]
  exact H
