/-! ===== work on one slot leaves the rest ===== -/
theorem pg_hi {b : Nat} {h : Hp} {c s0 nl ns nr : Nat} {Lw nv nn Ob : Nat → Nat} {ex : Nat → Bool} {rl : Nat → Nat} {Rc : Nat → RecT} {τ : Nat → Nat} (I : IG b h c s0 nl ns nr Lw nv nn Ob ex rl Rc τ) {l0 : Nat} (hl : l0 < nl) {x : Nat} (hx : c + 124 ≤ x) (p : PG c (Lw l0) Ob ex s0 x) : (τ x = l0 ∧ (x = Lw l0 + 7 ∨ x = Lw l0 + 8)) ∨ ∃ s, s < 9 ∧ (s = s0 ∨ s = 8) ∧ τ x = 16 + s := by
  obtain ⟨i1, i2, i3, i4, i5, i6, i7, i8, i9, i10, i11, i12, i13⟩ := I
  have bl := i11 l0 hl
  rcases p with p | p | p | p | ⟨s, s1, s2, s3, s4, s5⟩
  · omega
  · exact Or.inl ⟨bl.2.2 x (by omega) (by omega), Or.inl p⟩
  · exact Or.inl ⟨bl.2.2 x (by omega) (by omega), Or.inr p⟩
  · omega
  · exact Or.inr ⟨s, s1, s2, (i13 s s1 s3).2.2 x s4 s5⟩
theorem pg_lo {b : Nat} {h : Hp} {c s0 nl ns nr : Nat} {Lw nv nn Ob : Nat → Nat} {ex : Nat → Bool} {rl : Nat → Nat} {Rc : Nat → RecT} {τ : Nat → Nat} (I : IG b h c s0 nl ns nr Lw nv nn Ob ex rl Rc τ) {l0 : Nat} (hl : l0 < nl) {x : Nat} (hx : x < c + 124) (p : PG c (Lw l0) Ob ex s0 x) : x = c + 1 ∨ (c + 8 ≤ x ∧ x < c + 66) := by
  obtain ⟨i1, i2, i3, i4, i5, i6, i7, i8, i9, i10, i11, i12, i13⟩ := I
  have bl := (i11 l0 hl).1
  rcases p with p | p | p | p | ⟨s, s1, s2, s3, s4, s5⟩
  · exact Or.inl p
  · omega
  · omega
  · exact Or.inr p
  · have := (i13 s s1 s3).1; omega
theorem qg_hi {b : Nat} {h : Hp} {c s0 nl ns nr : Nat} {Lw nv nn Ob : Nat → Nat} {ex : Nat → Bool} {rl : Nat → Nat} {Rc : Nat → RecT} {τ : Nat → Nat} (I : IG b h c s0 nl ns nr Lw nv nn Ob ex rl Rc τ) {x : Nat} (hx : c + 124 ≤ x) (p : QG c Ob ex s0 x) : ∃ s, s < 9 ∧ (s = s0 ∨ s = 8) ∧ τ x = 16 + s := by
  obtain ⟨i1, i2, i3, i4, i5, i6, i7, i8, i9, i10, i11, i12, i13⟩ := I
  rcases p with p | p | ⟨s, s1, s2, s3, s4⟩
  · omega
  · omega
  · exact ⟨s, s1, s2, (i13 s s1 s3).2.2 x (by omega) (by omega)⟩
theorem qg_lo {b : Nat} {h : Hp} {c s0 nl ns nr : Nat} {Lw nv nn Ob : Nat → Nat} {ex : Nat → Bool} {rl : Nat → Nat} {Rc : Nat → RecT} {τ : Nat → Nat} (I : IG b h c s0 nl ns nr Lw nv nn Ob ex rl Rc τ) {x : Nat} (hx : x < c + 124) (p : QG c Ob ex s0 x) : x = c + 8 ∨ x = c + 37 := by
  obtain ⟨i1, i2, i3, i4, i5, i6, i7, i8, i9, i10, i11, i12, i13⟩ := I
  rcases p with p | p | ⟨s, s1, s2, s3, s4⟩
  · exact Or.inl p
  · exact Or.inr p
  · have := (i13 s s1 s3).1; omega
/-- the reference's laws and signals are the same numbers -/
def ME (h h' : Hp) (m : Nat) : Prop := ∀ o, 1 ≤ o → o < 14 → hpI h' (m + o) = hpI h (m + o) ∧ hpD h' (m + o) = hpD h (m + o)
theorem me_lw {h h' : Hp} {m l n ns N : Nat} (e : ME h h' m) (x : LwOK h m l n ns N) : LwOK h' m l n ns N := by
  unfold LwOK
  rw [(e 1 (by omega) (by omega)).1, (e 3 (by omega) (by omega)).1, (e 5 (by omega) (by omega)).1, (e 6 (by omega) (by omega)).1, (e 7 (by omega) (by omega)).1, (e 8 (by omega) (by omega)).1, (e 9 (by omega) (by omega)).2]
  exact x
theorem me_sd {h h' : Hp} {m l n N : Nat} (e : ME h h' m) (x : SdOK h m l n N) : SdOK h' m l n N := by
  unfold SdOK; rw [(e 4 (by omega) (by omega)).1]; exact x
theorem me_sg {h h' : Hp} {m ns : Nat} (e : ME h h' m) (x : SgOK h m ns) : SgOK h' m ns := by
  unfold SgOK; rw [(e 11 (by omega) (by omega)).1, (e 12 (by omega) (by omega)).2]; exact x
theorem me_sv {h h' : Hp} {m : Nat} (e : ME h h' m) (x : SvOK h m) : SvOK h' m := by
  unfold SvOK; rw [(e 13 (by omega) (by omega)).2]; exact x
theorem me_lr {h h' : Hp} {m l L n N : Nat} (e : ME h h' m) (f : ∀ o, o < 10 → o ≠ 7 → o ≠ 8 → hpI h' (L + o) = hpI h (L + o) ∧ hpD h' (L + o) = hpD h (L + o)) (x : LR h m l L n N) : LR h' m l L n N := by
  have f0 : hpI h' L = hpI h L := (f 0 (by omega) (by omega) (by omega)).1
  unfold LR
  rw [f0, (e 2 (by omega) (by omega)).1, (f 1 (by omega) (by omega) (by omega)).1, (f 2 (by omega) (by omega) (by omega)).1, (f 3 (by omega) (by omega) (by omega)).1, (f 4 (by omega) (by omega) (by omega)).1, (f 5 (by omega) (by omega) (by omega)).2, (f 9 (by omega) (by omega) (by omega)).1, (e 5 (by omega) (by omega)).1, (e 6 (by omega) (by omega)).1, (e 7 (by omega) (by omega)).1, (e 8 (by omega) (by omega)).1, (e 9 (by omega) (by omega)).2, (e 4 (by omega) (by omega)).1]
  exact x
theorem me_sde {h h' : Hp} {m l L n N : Nat} (e : ME h h' m) (f : hpI h' L = hpI h L) (x : SDe h m l L n N) : SDe h' m l L n N := by
  unfold SDe; rw [(e 4 (by omega) (by omega)).1, (e 9 (by omega) (by omega)).2, f]; exact x
theorem me_sgc {h h' : Hp} {m sg ns : Nat} (e : ME h h' m) (k : hpK h' sg = hpK h sg) (r : hpR h' sg = hpR h sg) (f : ∀ s, s < ns → ∀ S, hpR h sg s = some S → SO h' S ∧ ∀ o, o < 3 → hpI h' (S + o) = hpI h (S + o) ∧ hpD h' (S + o) = hpD h (S + o)) (x : SGc h m sg ns) : SGc h' m sg ns := by
  refine ⟨by rw [k]; exact x.1, fun s hs => ?_⟩
  obtain ⟨S, p, s1, s2, s3, s4, s5, s6, s7, s8⟩ := x.2 s hs
  obtain ⟨so, fo⟩ := f s hs S s1
  have f0 : hpI h' S = hpI h S := (fo 0 (by omega)).1
  refine ⟨S, p, by rw [r]; exact s1, so, s3, ?_⟩
  rw [f0, (fo 1 (by omega)).2, (fo 2 (by omega)).2, (e 10 (by omega) (by omega)).1, (e 11 (by omega) (by omega)).1, (e 12 (by omega) (by omega)).2, (e 13 (by omega) (by omega)).2]
  exact ⟨s4, s5, s6, s7, s8⟩
theorem so_fx {P Q : Nat → Prop} {h h' : Hp} {S : Nat} (F : Fx P Q h h') (q : ¬ Q S) (s : SO h S) : SO h' S := by
  unfold SO; rw [F.2.1, F.2.2.1 _ q]; exact s
theorem ig_fx {b : Nat} {h h' : Hp} {c s0 nl ns nr : Nat} {Lw nv nn Ob : Nat → Nat} {ex : Nat → Bool} {rl : Nat → Nat} {Rc : Nat → RecT} {τ : Nat → Nat} (I : IG b h c s0 nl ns nr Lw nv nn Ob ex rl Rc τ) {l0 : Nat} (hl : l0 < nl) (F : Fx (PG c (Lw l0) Ob ex s0) (QG c Ob ex s0) h h') (K : RK h' (c + 1)) (V : RN h' (Lw l0 + 6) 48) (T1 : S0 h' (c + 8) (c + 1)) (T2 : SN h' (c + 8)) (T3 : S0 h' (c + 37) (c + 1)) (T4 : SN h' (c + 37)) (X : ∀ s, s < 9 → (s = s0 ∨ s = 8) → ex s = true → RX h' (Ob s) (c + 1)) : IG b h' c s0 nl ns nr Lw nv nn Ob ex rl Rc τ := by
  have plo := fun x (hx : x < c + 124) p => pg_lo I hl (x := x) hx p
  have phi := fun x (hx : c + 124 ≤ x) p => pg_hi I hl (x := x) hx p
  have qlo := fun x (hx : x < c + 124) p => qg_lo I (x := x) hx p
  have qhi := fun x (hx : c + 124 ≤ x) p => qg_hi I (x := x) hx p
  obtain ⟨⟨a1, a2, a3, a4, a5, a6, a7, a8⟩, i2, i3, i4, ⟨j1, j2, j3, j4⟩, i6, i7, i8, i9, i10, i11, i12, i13⟩ := I
  obtain ⟨c1, c2', c3, c4, c5, c6, c7, c8, c9⟩ := i2
  have eM : ∀ o, o < 58 → hpI h' (c + 66 + o) = hpI h (c + 66 + o) ∧ hpD h' (c + 66 + o) = hpD h (c + 66 + o) := fun o ho => F.2.2.2 _ (fun p => by have := plo _ (by omega) p; omega)
  have eC : ∀ x, x < c + 8 → x ≠ c + 1 → hpI h' x = hpI h x ∧ hpD h' x = hpD h x := fun x h1 h2 => F.2.2.2 _ (fun p => by have := plo _ (by omega) p; omega)
  have rC : ∀ x, x < c + 124 → x ≠ c + 8 → x ≠ c + 37 → hpR h' x = hpR h x := fun x h1 h2 h3 => F.2.2.1 _ (fun p => by have := qlo _ h1 p; omega)
  have me : ME h h' (c + 66) := fun o h1 h2 => eM o (by omega)
  have eM0 : hpI h' (c + 66) = hpI h (c + 66) := (eM 0 (by omega)).1
  -- blocks of other things
  have nQ : ∀ x, c + 124 ≤ x → (τ x < 16 ∨ ∃ s, s < 9 ∧ s ≠ s0 ∧ s ≠ 8 ∧ τ x = 16 + s) → ¬ QG c Ob ex s0 x := fun x hx ht p => by
    obtain ⟨s, s1, s2, s3⟩ := qhi x hx p
    rcases ht with z | ⟨s', t1, t2, t3, t4⟩
    · omega
    · rcases s2 with e | e <;> omega
  have nP : ∀ x, c + 124 ≤ x → ((τ x < 16 ∧ (τ x ≠ l0 ∨ (x ≠ Lw l0 + 7 ∧ x ≠ Lw l0 + 8))) ∨ ∃ s, s < 9 ∧ s ≠ s0 ∧ s ≠ 8 ∧ τ x = 16 + s) → ¬ PG c (Lw l0) Ob ex s0 x := fun x hx ht p => by
    rcases phi x hx p with ⟨p1, p2⟩ | ⟨s, s1, s2, s3⟩
    · rcases ht with ⟨z1, z2⟩ | ⟨s', t1, t2, t3, t4⟩
      · omega
      · omega
    · rcases ht with ⟨z1, z2⟩ | ⟨s', t1, t2, t3, t4⟩
      · omega
      · rcases s2 with e | e <;> omega
  refine ⟨⟨xo_fx F (fun p => by have := qlo _ (by omega) p; omega) (fun p => by have := qlo _ (by omega) p; omega) a1, fun i hi => by rw [(eC (c + 3) (by omega) (by omega)).2]; exact a2 i hi, K, T1, T2, T3, T4, ro_fx F (fun p => by have := qlo _ (by omega) p; omega) a8⟩, ⟨c1, c2', c3, by rw [(eC c (by omega) (by omega)).1]; exact c4, by rw [(eC c (by omega) (by omega)).1]; exact c5, by rw [(eC c (by omega) (by omega)).1]; exact c6, by rw [eM0]; exact c7, by rw [eM0]; exact c8, by rw [eM0]; exact c9⟩, fun l hll => ?_, fun l h1 h2 => ?_, ⟨me_sg me j1, me_sv me j2, ?_, fun s h1 h2 => by rw [(eM 11 (by omega)).1]; exact j4 s h1 h2⟩, fun s hs he => ?_, fun s hs he hne => ?_, fun s hs => ?_, fun p hp => ?_, fun p hp => ?_, fun l hll => bk_fx F (i11 l hll), fun s hs S hS => ?_, fun s hs he => bk_fx F (i13 s hs he)⟩
  · obtain ⟨l1, l2, l3, l4, l5, l6⟩ := i3 l hll
    have bl := i11 l hll
    have b1 := bl.1
    have tg : ∀ o, o < 10 → τ (Lw l + o) = l := fun o ho => bl.2.2 _ (by omega) (by omega)
    have cells : ∀ o, o < 10 → o ≠ 7 → o ≠ 8 → hpI h' (Lw l + o) = hpI h (Lw l + o) ∧ hpD h' (Lw l + o) = hpD h (Lw l + o) := fun o h1 h7 h8 => F.2.2.2 _ (nP _ (by omega) (Or.inl ⟨by rw [tg o h1]; omega, by
      rw [tg o h1]
      by_cases e : l = l0
      · right; rw [← e]; omega
      · left; exact e⟩))
    have L0 : hpI h' (Lw l) = hpI h (Lw l) := (cells 0 (by omega) (by omega) (by omega)).1
    refine ⟨by rw [rC (c + 4) (by omega) (by omega) (by omega)]; exact l1, lo_fx F (nQ _ (by omega) (Or.inl (by have := tg 0 (by omega); rw [Nat.add_zero] at this; omega))) (nQ _ (by omega) (Or.inl (by rw [tg 6 (by omega)]; omega))) l2, me_lw me l3, me_lr me cells l4, ?_, me_sde me L0 l6⟩
    by_cases e : l = l0
    · rw [e]; exact V
    · exact rn_fx F (nP _ (by omega) (Or.inl ⟨by have := tg 7 (by omega); rw [show Lw l + 6 + 1 = Lw l + 7 by omega]; omega, Or.inl (by have := tg 7 (by omega); rw [show Lw l + 6 + 1 = Lw l + 7 by omega]; omega)⟩)) (nP _ (by omega) (Or.inl ⟨by have := tg 8 (by omega); rw [show Lw l + 6 + 2 = Lw l + 8 by omega]; omega, Or.inl (by have := tg 8 (by omega); rw [show Lw l + 6 + 2 = Lw l + 8 by omega]; omega)⟩)) l5
  · rw [(eM 3 (by omega)).1, (eM 4 (by omega)).1, (eM 9 (by omega)).2]; exact i4 l h1 h2
  · refine me_sgc me (by rw [F.2.1]) (rC _ (by omega) (by omega) (by omega)) (fun s hs S hS => ?_) j3
    have bs := i12 s hs S hS
    have b1 := bs.1
    have tg : ∀ o, o < 3 → τ (S + o) = 8 + s := fun o ho => bs.2.2 _ (by omega) (by omega)
    obtain ⟨S', p, s1, s2, -⟩ := j3.2 s hs
    have eS : S' = S := by rw [hS] at s1; exact (Option.some.inj s1).symm
    subst eS
    refine ⟨so_fx F (nQ _ (by omega) (Or.inl (by have := tg 0 (by omega); rw [Nat.add_zero] at this; omega))) s2, fun o ho => F.2.2.2 _ (nP _ (by omega) (Or.inl ⟨by rw [tg o ho]; omega, Or.inl (by rw [tg o ho]; omega)⟩))⟩
  · by_cases e : s = s0 ∨ s = 8
    · exact X s hs e he
    · have br := i13 s hs he
      have b1 := br.1
      have tg : ∀ x, Ob s ≤ x → x < Ob s + 41 → τ x = 16 + s := br.2.2
      obtain ⟨r1, r2, r3⟩ := i6 s hs he
      have np : ∀ a, Ob s ≤ a → a < Ob s + 41 → ¬ PG c (Lw l0) Ob ex s0 a := fun a h1 h2 => nP a (by omega) (Or.inr ⟨s, hs, fun z => e (Or.inl z), fun z => e (Or.inr z), tg a h1 h2⟩)
      have nq : ∀ a, Ob s ≤ a → a < Ob s + 41 → ¬ QG c Ob ex s0 a := fun a h1 h2 => nQ a (by omega) (Or.inr ⟨s, hs, fun z => e (Or.inl z), fun z => e (Or.inr z), tg a h1 h2⟩)
      exact ⟨rb_fx F nq r1, rn_fx F (np _ (by omega) (by omega)) (np _ (by omega) (by omega)) r2, sn_fx F (fun a h1 h2 => np a (by omega) (by omega)) r3⟩
  · obtain ⟨hrl, s1, s2, s3, s4, s5, s6⟩ := i7 s hs he hne
    have br := i13 s (by omega) he
    have b1 := br.1
    have np : ∀ a, Ob s ≤ a → a < Ob s + 41 → ¬ PG c (Lw l0) Ob ex s0 a := fun a h1 h2 => nP a (by omega) (Or.inr ⟨s, by omega, hne, by omega, br.2.2 a h1 h2⟩)
    have nq : ∀ a, Ob s ≤ a → a < Ob s + 41 → ¬ QG c Ob ex s0 a := fun a h1 h2 => nQ a (by omega) (Or.inr ⟨s, by omega, hne, by omega, br.2.2 a h1 h2⟩)
    exact ⟨hrl, me_sd me s1, s2, rr_eq (fun o h1 h2 => eM o (by omega)) s3, cr_fx s4 F np nq, s5, by rw [F.2.2.1 _ (nq _ (by omega) (by omega))]; exact s6⟩
  · obtain ⟨k1, k2, k3⟩ := i8 s hs
    exact ⟨k1, fun z => by rw [rC (c + 6) (by omega) (by omega) (by omega)]; exact k2 z, fun z => rr_eq (fun o h1 h2 => eM o (by omega)) (k3 z)⟩
  · rw [rC (c + 7) (by omega) (by omega) (by omega)]; exact i9 p hp
  · rw [(eM 23 (by omega)).1]; exact i10 p hp
  · rw [rC (c + 5) (by omega) (by omega) (by omega)] at hS; exact bk_fx F (i12 s hs S hS)
/-- the reference works on a slot -/
theorem ig_fs {b : Nat} {h h' : Hp} {c s0 nl ns nr : Nat} {Lw nv nn Ob : Nat → Nat} {ex : Nat → Bool} {rl : Nat → Nat} {Rc : Nat → RecT} {τ : Nat → Nat} (I : IG b h c s0 nl ns nr Lw nv nn Ob ex rl Rc τ) {s1 : Nat} (h1 : s1 = s0 ∨ s1 = 8) (h2 : s1 < 4 → s1 < nr) (F : Fs h h' (c + 66) s1) : IG b h' c s0 nl ns nr Lw nv nn Ob ex rl Rc τ := by
  obtain ⟨f1, f2, f3, f4, f5, f6⟩ := F
  obtain ⟨⟨a1, a2, a3, a4, a5, a6, a7, a8⟩, i2, i3, i4, ⟨j1, j2, j3, j4⟩, i6, i7, i8, i9, i10, i11, i12, i13⟩ := I
  obtain ⟨c1, c2', c3, c4, c5, c6, c7, c8, c9⟩ := i2
  have G : Fx (fun a => c + 66 ≤ a ∧ a < c + 124) (fun _ => False) h h' := ⟨f1, f2.1, fun a _ => by rw [f2.2.1], fun a ha => f3 a (by omega)⟩
  have me : ME h h' (c + 66) := f2.2.2
  have hC : ∀ a, (a < c + 66 ∨ c + 124 ≤ a) → hpI h' a = hpI h a ∧ hpD h' a = hpD h a := fun a ha => f3 a (by omega)
  have bk : ∀ a sz i, BK h c τ a sz i → BK h' c τ a sz i := fun a sz i B => bk_fx G B
  refine ⟨⟨xo_fx G (fun z => z) (fun z => z) a1, fun i hi => by rw [(hC (c + 3) (by omega)).2]; exact a2 i hi, ⟨by rw [f2.1]; exact a3.1, by rw [(hC (c + 1) (by omega)).2]; exact a3.2⟩, s0_fx G (fun _ _ _ z => z) a4, sn_fx G (fun a _ _ z => by omega) a5, s0_fx G (fun _ _ _ z => z) a6, sn_fx G (fun a _ _ z => by omega) a7, le_RO f2 a8⟩, ⟨c1, c2', c3, by rw [(hC c (by omega)).1]; exact c4, by rw [(hC c (by omega)).1]; exact c5, by rw [(hC c (by omega)).1]; exact c6, by rw [f4 9 (by omega) (by omega)]; exact c7, by rw [f4 14 (by omega) (by omega)]; exact c8, by rw [f4 45 (by omega) (by omega)]; exact c9⟩, fun l hll => ?_, fun l g1 g2 => by rw [(me 3 (by omega) (by omega)).1, (me 4 (by omega) (by omega)).1, (me 9 (by omega) (by omega)).2]; exact i4 l g1 g2, ⟨me_sg me j1, me_sv me j2, ?_, fun s g1 g2 => by rw [(me 11 (by omega) (by omega)).1]; exact j4 s g1 g2⟩, fun s hs he => ?_, fun s hs he hne => ?_, fun s hs => ?_, fun p hp => by rw [f2.2.1]; exact i9 p hp, fun p hp => by rw [f5]; exact i10 p hp, fun l hll => bk _ _ _ (i11 l hll), fun s hs S hS => by rw [f2.2.1] at hS; exact bk _ _ _ (i12 s hs S hS), fun s hs he => bk _ _ _ (i13 s hs he)⟩
  · obtain ⟨l1, l2, l3, l4, l5, l6⟩ := i3 l hll
    have b1 := (i11 l hll).1
    exact ⟨by rw [f2.2.1]; exact l1, lo_fx G (fun z => z) (fun z => z) l2, me_lw me l3, me_lr me (fun o _ _ _ => hC _ (by omega)) l4, rn_fx G (by omega) (by omega) l5, me_sde me (hC _ (by omega)).1 l6⟩
  · refine me_sgc me (by rw [f2.1]) (by rw [f2.2.1]) (fun s hs S hS => ?_) j3
    have b1 := (i12 s hs S hS).1
    obtain ⟨S', p, t1, t2, -⟩ := j3.2 s hs
    have eS : S' = S := by rw [hS] at t1; exact (Option.some.inj t1).symm
    subst eS
    exact ⟨so_fx G (fun z => z) t2, fun o ho => hC _ (by omega)⟩
  · have b1 := (i13 s hs he).1
    obtain ⟨r1, r2, r3⟩ := i6 s hs he
    exact ⟨rb_fx G (fun _ _ _ z => z) r1, rn_fx G (by omega) (by omega) r2, sn_fx G (fun a _ _ z => by omega) r3⟩
  · obtain ⟨hrl, t1, t2, t3, t4, t5, t6⟩ := i7 s hs he hne
    have b1 := (i13 s (by omega) he).1
    have hn : nv (rl s) ≤ 6 := (i3 _ hrl).2.2.1.2.2.2.1
    exact ⟨hrl, me_sd me t1, t2, f6 s (by rcases h1 with e | e <;> omega) _ _ hn t3, cr_fx t4 G (fun a _ _ z => by omega) (fun _ _ _ z => z), t5, by rw [f2.2.1]; exact t6⟩
  · obtain ⟨k1, k2, k3⟩ := i8 s hs
    exact ⟨k1, fun z => by rw [f2.2.1]; exact k2 z, fun z => f6 s (fun e => by have := h2 (by omega); omega) _ _ (by omega) (k3 z)⟩
/-- a slot is put back into the invariant -/
theorem ig_put {b : Nat} {h : Hp} {c s0 nl ns nr : Nat} {Lw nv nn Ob : Nat → Nat} {ex : Nat → Bool} {rl : Nat → Nat} {Rc : Nat → RecT} {τ : Nat → Nat} (I : IG b h c s0 nl ns nr Lw nv nn Ob ex rl Rc τ) {l : Nat} {A : RecT} (hl : l < nl) (S : SI b h c s0 (Ob s0) l (Lw l) (nv l) (nn l) A) : INV b h c := by
  obtain ⟨i1, i2, i3, i4, i5, i6, i7, i8⟩ := I
  refine ⟨nl, ns, nr, Lw, nv, nn, Ob, ex, up1 rl s0 l, up1 Rc s0 A, τ, i1, i2, i3, i4, i5, i6, fun s h1 h2 _ => ?_, i8⟩
  by_cases e : s = s0
  · subst e; rw [up1_self, up1_self]; exact ⟨hl, S⟩
  · rw [up1_ne e, up1_ne e]; exact i7 s h1 h2 e
theorem ig_weak {b : Nat} {h : Hp} {c s0 nl ns nr : Nat} {Lw nv nn Ob : Nat → Nat} {ex : Nat → Bool} {rl : Nat → Nat} {Rc : Nat → RecT} {τ : Nat → Nat} (I : IG b h c 9 nl ns nr Lw nv nn Ob ex rl Rc τ) : IG b h c s0 nl ns nr Lw nv nn Ob ex rl Rc τ := by
  obtain ⟨i1, i2, i3, i4, i5, i6, i7, i8⟩ := I
  exact ⟨i1, i2, i3, i4, i5, i6, fun s h1 h2 _ => i7 s h1 h2 (by omega), i8⟩
