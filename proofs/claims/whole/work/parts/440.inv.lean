/-! ===== THE INVARIANT: class and reference side by side ===== -/
def BK (h : Hp) (c : Nat) (τ : Nat → Nat) (a sz i : Nat) : Prop := c + 124 ≤ a ∧ a + sz ≤ hpS h ∧ ∀ x, a ≤ x → x < a + sz → τ x = i
theorem bk_dj {h : Hp} {c : Nat} {τ : Nat → Nat} {a p i b q j : Nat} (A : BK h c τ a p i) (B : BK h c τ b q j) (ne : i ≠ j) (hp : 0 < p) (hq : 0 < q) : a + p ≤ b ∨ b + q ≤ a := by
  rcases Nat.lt_or_ge b (a + p) with z | z
  · rcases Nat.lt_or_ge a (b + q) with w | w
    · exfalso
      rcases Nat.le_total a b with u | u
      · exact ne ((A.2.2 b u z).symm.trans (B.2.2 b (Nat.le_refl _) (by omega)))
      · exact ne ((A.2.2 a (Nat.le_refl _) (by omega)).symm.trans (B.2.2 a u w))
    · right; exact w
  · left; exact z
def SDe (h : Hp) (m l L n N : Nat) : Prop := ((∀ i, i < n → hpI h (m + 4) (6 * l + i) = -1 ∨ ∃ q, q < N ∧ hpI h (m + 4) (6 * l + i) = nI q) ∧ ∀ q, N ≤ q → q < 48 → hpD h (m + 9) (48 * l + q) = 0) ∧ ∃ E, hpI h L 12 = nI E ∧ E ≤ N ∧ ∀ i, i < n → ∀ q, q < N → hpI h (m + 4) (6 * l + i) = nI q → q < E
/-- a law of both -/
def LI (h : Hp) (c l L n N ns : Nat) : Prop := hpR h (c + 4) l = some L ∧ LO h L (c + 1) (c + 5) n ∧ LwOK h (c + 66) l n ns N ∧ LR h (c + 66) l L n N ∧ RN h (L + 6) 48 ∧ SDe h (c + 66) l L n N
/-- a slot of both -/
def SI (b : Nat) (h : Hp) (c s r l L n N : Nat) (A : RecT) : Prop := SdOK h (c + 66) l n N ∧ A.1 14 0 = nI l ∧ RR h (c + 66) s n A ∧ CR h r n A ∧ VA (200 * b) (800 * b) n N A ∧ hpR h r 0 = some L
/-- the class's own things -/
def IA (h : Hp) (c : Nat) : Prop := XO h c ∧ TE h c ∧ RK h (c + 1) ∧ S0 h (c + 8) (c + 1) ∧ SN h (c + 8) ∧ S0 h (c + 37) (c + 1) ∧ SN h (c + 37) ∧ RO h (c + 66)
def IC (h : Hp) (c nl ns nr : Nat) : Prop := nl ≤ 8 ∧ ns ≤ 8 ∧ nr ≤ 4 ∧ hpI h c 3 = nI nl ∧ hpI h c 5 = nI ns ∧ hpI h c 7 = nI nr ∧ hpI h (c + 66) 9 = nI nl ∧ hpI h (c + 66) 14 = nI ns ∧ hpI h (c + 66) 45 = nI nr
def IS (h : Hp) (c ns : Nat) : Prop := SgOK h (c + 66) ns ∧ SvOK h (c + 66) ∧ SGc h (c + 66) (c + 5) ns ∧ ∀ s, ns ≤ s → s < 8 → hpI h (c + 66 + 11) s = 0
def Zrec : RecT := (fun _ _ => 0, fun _ _ => 0)
def RX (h : Hp) (r k : Nat) : Prop := RB h r k ∧ RN h (r + 1) 6 ∧ SN h (r + 12)
def IG (b : Nat) (h : Hp) (c s0 nl ns nr : Nat) (Lw nv nn Ob : Nat → Nat) (ex : Nat → Bool) (rl : Nat → Nat) (Rc : Nat → RecT) (τ : Nat → Nat) : Prop :=
  IA h c ∧ IC h c nl ns nr ∧ (∀ l, l < nl → LI h c l (Lw l) (nv l) (nn l) ns) ∧ (∀ l, nl ≤ l → l < 8 → hpI h (c + 66 + 3) l = 0 ∧ (∀ i, i < 6 → hpI h (c + 66 + 4) (6 * l + i) = -1) ∧ ∀ q, q < 48 → hpD h (c + 66 + 9) (48 * l + q) = 0) ∧ IS h c ns ∧
  (∀ s, s < 9 → ex s = true → RX h (Ob s) (c + 1)) ∧ (∀ s, s < 8 → ex s = true → s ≠ s0 → rl s < nl ∧ SI b h c s (Ob s) (rl s) (Lw (rl s)) (nv (rl s)) (nn (rl s)) (Rc s)) ∧
  (∀ s, s < 4 → (ex s = true ↔ s < nr) ∧ (s < nr → hpR h (c + 6) s = some (Ob s)) ∧ (nr ≤ s → RR h (c + 66) s 6 Zrec)) ∧
  (∀ p, p < 5 → hpR h (c + 7) p = if ex (4 + p) = true then some (Ob (4 + p)) else none) ∧ (∀ p, p < 4 → hpI h (c + 66 + 23) p = if ex (4 + p) = true then 1 else 0) ∧
  (∀ l, l < nl → BK h c τ (Lw l) 10 l) ∧ (∀ s, s < ns → ∀ S, hpR h (c + 5) s = some S → BK h c τ S 3 (8 + s)) ∧ (∀ s, s < 9 → ex s = true → BK h c τ (Ob s) 41 (16 + s))
def INV (b : Nat) (h : Hp) (c : Nat) : Prop := ∃ nl ns nr Lw nv nn Ob ex rl Rc τ, IG b h c 9 nl ns nr Lw nv nn Ob ex rl Rc τ
theorem si_mono {b b' : Nat} {h : Hp} {c s r l L n N : Nat} {A : RecT} (hb : b ≤ b') (S : SI b h c s r l L n N A) : SI b' h c s r l L n N A := by
  obtain ⟨a1, a2, a3, a4, a5, a6⟩ := S
  exact ⟨a1, a2, a3, a4, a5.mono (by omega) (by omega), a6⟩
theorem ig_mono {b b' : Nat} {h : Hp} {c s0 nl ns nr : Nat} {Lw nv nn Ob : Nat → Nat} {ex : Nat → Bool} {rl : Nat → Nat} {Rc : Nat → RecT} {τ : Nat → Nat} (hb : b ≤ b') (I : IG b h c s0 nl ns nr Lw nv nn Ob ex rl Rc τ) : IG b' h c s0 nl ns nr Lw nv nn Ob ex rl Rc τ := by
  obtain ⟨i1, i2, i3, i4, i5, i6, i7, i8⟩ := I
  exact ⟨i1, i2, i3, i4, i5, i6, fun s h1 h2 h3 => ⟨(i7 s h1 h2 h3).1, si_mono hb (i7 s h1 h2 h3).2⟩, i8⟩
theorem inv_mono {b b' : Nat} {h : Hp} {c : Nat} (hb : b ≤ b') (I : INV b h c) : INV b' h c := by
  obtain ⟨nl, ns, nr, Lw, nv, nn, Ob, ex, rl, Rc, τ, i⟩ := I
  exact ⟨nl, ns, nr, Lw, nv, nn, Ob, ex, rl, Rc, τ, ig_mono hb i⟩
/-- a law that is ready stands in its surroundings -/
theorem ig_en {b : Nat} {h : Hp} {c s0 nl ns nr : Nat} {Lw nv nn Ob : Nat → Nat} {ex : Nat → Bool} {rl : Nat → Nat} {Rc : Nat → RecT} {τ : Nat → Nat} (I : IG b h c s0 nl ns nr Lw nv nn Ob ex rl Rc τ) {l : Nat} (hl : l < nl) (sd : SdOK h (c + 66) l (nv l) (nn l)) : EN h (c + 66) l (nv l) ns (nn l) (c + 1) (Lw l) (c + 5) := by
  obtain ⟨⟨a1, a2, a3, a4, a5, a6, a7, a8⟩, i2, i3, i4, ⟨j1, j2, j3, j4⟩, i6, i7, i8, i9, i10, i11, i12, i13⟩ := I
  obtain ⟨l1, l2, l3, l4, l5, l6, E, e1, e2, e3⟩ := i3 l hl
  have bl := i11 l hl
  have hN := l3.2.1
  refine ⟨a3, l2, ⟨a8, l3, j1, j2, sd⟩, l4, j3, l5, ⟨E, e1, e2, fun i hi => ?_⟩, by omega, by have := bl.1; omega, fun s hs S hS => ?_⟩
  · obtain ⟨q, q1, q2⟩ := sd i hi
    rw [q1, show tc (nI q) = q from ni_cl (by omega)]
    exact e3 i hi q q2 q1
  · have bs := i12 s hs S hS
    have h8 := i2.1
    exact ⟨by have := bs.1; omega, (bk_dj bs bl (by omega) (by omega) (by omega)).imp id id⟩
theorem ig_wr {b : Nat} {h : Hp} {c s0 nl ns nr : Nat} {Lw nv nn Ob : Nat → Nat} {ex : Nat → Bool} {rl : Nat → Nat} {Rc : Nat → RecT} {τ : Nat → Nat} (I : IG b h c s0 nl ns nr Lw nv nn Ob ex rl Rc τ) {s : Nat} (hs : s < 8) (he : ex s = true) (h0 : s ≠ s0) : WR h (c + 66) (rl s) (nv (rl s)) ns (nn (rl s)) (c + 1) (Lw (rl s)) (c + 5) (Ob s) := by
  have I' := I
  obtain ⟨i1, i2, i3, i4, i5, i6, i7, i8, i9, i10, i11, i12, i13⟩ := I
  obtain ⟨hl, s1, s2, s3, s4, s5, s6⟩ := i7 s hs he h0
  obtain ⟨r1, r2, r3⟩ := i6 s (by omega) he
  have br := i13 s (by omega) he
  have bl := i11 _ hl
  have h8 := i2.1
  have h82 := i2.2.1
  refine ⟨ig_en I' hl s1, r1, r2, r3, ⟨by have := br.1; omega, bk_dj br bl (by omega) (by omega) (by omega), fun q hq S hS => ?_⟩, s6⟩
  have := bk_dj (i12 q hq S hS) br (by omega) (by omega) (by omega)
  omega
/-- where the class's work on a run may write -/
def PG (c L : Nat) (Ob : Nat → Nat) (ex : Nat → Bool) (s0 a : Nat) : Prop := a = c + 1 ∨ a = L + 7 ∨ a = L + 8 ∨ (c + 8 ≤ a ∧ a < c + 66) ∨ ∃ s, s < 9 ∧ (s = s0 ∨ s = 8) ∧ ex s = true ∧ Ob s ≤ a ∧ a < Ob s + 41
def QG (c : Nat) (Ob : Nat → Nat) (ex : Nat → Bool) (s0 a : Nat) : Prop := a = c + 8 ∨ a = c + 37 ∨ ∃ s, s < 9 ∧ (s = s0 ∨ s = 8) ∧ ex s = true ∧ (a = Ob s ∨ a = Ob s + 12)
theorem bk_fx {P Q : Nat → Prop} {h h' : Hp} {c : Nat} {τ : Nat → Nat} {a sz i : Nat} (F : Fx P Q h h') (B : BK h c τ a sz i) : BK h' c τ a sz i := ⟨B.1, by rw [F.1]; exact B.2.1, B.2.2⟩
theorem rr_eq {h h' : Hp} {m s n : Nat} {A : RecT} (e : ∀ o, 14 ≤ o → o < 44 → hpI h' (m + o) = hpI h (m + o) ∧ hpD h' (m + o) = hpD h (m + o)) (R : RR h m s n A) : RR h' m s n A := by
  obtain ⟨r1, r2, r3, r4, r5, r6, r7, r8, r9⟩ := R
  refine ⟨fun o h1 h2 => by rw [(e o (by omega) (by omega)).1]; exact r1 o h1 h2, by rw [(e 36 (by omega) (by omega)).1]; exact r2, fun o h1 h2 => by rw [(e o (by omega) (by omega)).2]; exact r3 o h1 h2, by rw [(e 37 (by omega) (by omega)).2]; exact r4, by rw [(e 38 (by omega) (by omega)).2]; exact r5, fun i hi => by rw [(e 29 (by omega) (by omega)).2]; exact r6 i hi, fun o h1 h2 j hj => by rw [(e o (by omega) (by omega)).1]; exact r7 o h1 h2 j hj, fun j hj => by rw [(e 34 (by omega) (by omega)).1, (e 35 (by omega) (by omega)).2]; exact r8 j hj, fun st => ⟨fun o h1 h2 i hi => by rw [(e o (by omega) (by omega)).2]; exact (r9 st).1 o h1 h2 i hi, fun j hj i hi => by rw [(e 43 (by omega) (by omega)).2]; exact (r9 st).2.1 j hj i hi, fun t i hi => by rw [(e 43 (by omega) (by omega)).2]; exact (r9 st).2.2 t i hi⟩⟩
theorem ro_fx {P Q : Nat → Prop} {h h' : Hp} {m : Nat} (F : Fx P Q h h') (q : ¬ Q m) (R : RO h m) : RO h' m := ⟨fun k => by rw [F.2.2.1 m q]; exact R.1 k, fun o ho => by rw [F.2.1]; exact R.2 o ho⟩
theorem rb_fx {P Q : Nat → Prop} {h h' : Hp} {r k : Nat} (F : Fx P Q h h') (q : ∀ a, r ≤ a → a < r + 41 → ¬ Q a) (B : RB h r k) : RB h' r k := by
  obtain ⟨a1, a2, a3, a4, a5, a6, a7, a8, a9, a10, a11, a12, a13, a14⟩ := B
  have q0 := F.2.2.1 r (q r (by omega) (by omega))
  have q1 := F.2.2.1 (r + 1) (q _ (by omega) (by omega))
  have q4 := F.2.2.1 (r + 4) (q _ (by omega) (by omega))
  refine ⟨by rw [F.2.1]; exact a1, by rw [q0]; exact a2, by rw [q0]; exact a3, by rw [q0]; exact a4, ?_, by rw [F.2.1]; exact a6, fun j h1 h2 => by rw [q4]; exact a7 j h1 h2, by rw [q4]; exact a8, by rw [q4]; exact a9, fun j h1 h2 => by rw [F.2.1]; exact a10 j h1 h2, by rw [F.2.1]; exact a11, by rw [F.2.1]; exact a12, by rw [F.2.1]; exact a13, s0_fx F (fun a h1 h2 => q a (by omega) (by omega)) a14⟩
  unfold RW; rw [F.2.1, q1]; exact a5
theorem rn_fx {P Q : Nat → Prop} {h h' : Hp} {a N : Nat} (F : Fx P Q h h') (h1 : ¬ P (a + 1)) (h2 : ¬ P (a + 2)) (r : RN h a N) : RN h' a N := fun i hi => by
  rw [(F.2.2.2 _ h1).2, (F.2.2.2 _ h2).1]; exact r i hi
theorem cr_fx {P Q : Nat → Prop} {h h' : Hp} {r n : Nat} {A : RecT} (C : CR h r n A) (F : Fx P Q h h') (hP : ∀ a, r ≤ a → a < r + 41 → ¬ P a) (hQ : ∀ a, r ≤ a → a < r + 41 → ¬ Q a) : CR h' r n A := by
  have q : ∀ o, o < 41 → hpI h' (r + o) = hpI h (r + o) ∧ hpD h' (r + o) = hpD h (r + o) := fun o h1 => F.2.2.2 _ (hP _ (by omega) (by omega))
  have q0I : hpI h' r = hpI h r := (q 0 (by omega)).1
  have q0D : hpD h' r = hpD h r := (q 0 (by omega)).2
  have rv : ∀ o, o + 2 < 41 → RV h' (r + o) = RV h (r + o) := fun o ho => by
    funext i; unfold RV
    rw [show r + o + 1 = r + (o + 1) by omega, show r + o + 2 = r + (o + 2) by omega, (q (o + 1) (by omega)).2, (q (o + 2) (by omega)).1]
  have rvT : ∀ o, IsR o → RV h' (r + 12 + o) = RV h (r + 12 + o) := fun o ho => by
    have := isr_le ho
    rw [show r + 12 + o = r + (12 + o) by omega]; exact rv _ (by omega)
  obtain ⟨c1, c2, c3, c4, c5, c6, c7, c8, c9, c10, c11, c12, c13, c14, c15, c16, c17⟩ := C
  refine ⟨by rw [q0D]; exact c1, by rw [q0I]; exact c2, by rw [q0D]; exact c3, by rw [q0D]; exact c4, by rw [q0D]; exact c5, by rw [q0I]; exact c6, by rw [q0I]; exact c7, by rw [q0I]; exact c8, by rw [rv 1 (by omega)]; exact c9, by rw [(q 4 (by omega)).1]; exact c10, by rw [(q 4 (by omega)).1]; exact c11, fun j hj => ?_, fun j hj => ?_, by rw [(q 12 (by omega)).2]; exact c14, by rw [(q 12 (by omega)).1]; exact c15, by rw [(q 12 (by omega)).2]; exact c16, fun st => ?_⟩
  · rw [(q 5 (by omega)).1, (q 6 (by omega)).1, (q 7 (by omega)).1, (q 8 (by omega)).1]; exact c12 j hj
  · rw [(q 10 (by omega)).1, (q 11 (by omega)).2]; exact c13 j hj
  · obtain ⟨d1, d2, d3, d4, d5, d6⟩ := c17 st
    refine ⟨by rw [F.2.2.1 r (hQ _ (by omega) (by omega)), F.2.2.1 (r + 12) (hQ _ (by omega) (by omega))]; exact d1, by rw [(q 12 (by omega)).1]; exact d2, ⟨by rw [(q 12 (by omega)).2]; exact d3.1, by rw [(q 12 (by omega)).2]; exact d3.2.1, fun i hi => by rw [rvT 1 i1, rvT 7 i7, rvT 11 i11, rvT 26 i26]; exact d3.2.2 i hi⟩, by rw [(q 12 (by omega)).2]; exact d4, fun j hj i hi => by rw [rvT (11 + 3 * j) (isr_k (by have := sgN_le (tc (A.1 36 0)); omega))]; exact d5 j hj i hi, fun e i hi => by rw [rvT 23 i23]; exact d6 e i hi⟩
theorem lo_fx {P Q : Nat → Prop} {h h' : Hp} {L k sg n : Nat} (F : Fx P Q h h') (q0 : ¬ Q L) (q6 : ¬ Q (L + 6)) (r : LO h L k sg n) : LO h' L k sg n := by
  unfold LO RW; rw [F.2.1, F.2.2.1 _ q0, F.2.2.1 _ q6]; exact r
