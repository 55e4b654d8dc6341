theorem gr_so {D : Nat → Prop} {h h' : Hp} {S : Nat} (G : Gr D h h') (ha : S + 3 ≤ hpS h) (h0 : ¬ D S) (x : SO h S) : SO h' S := by
  unfold SO
  rw [(G.2 S (by omega)).1, (G.2 (S + 1) (by omega)).1, (G.2 (S + 2) (by omega)).1, ((G.2 S (by omega)).2 h0).2.2]; exact x
theorem gr_ro {D : Nat → Prop} {h h' : Hp} {m : Nat} (G : Gr D h h') (ha : m + 58 ≤ hpS h) (r : hpR h' m = hpR h m) (x : RO h m) : RO h' m := ⟨fun k => by rw [r]; exact x.1 k, fun q hq => by rw [(G.2 _ (by omega)).1]; exact x.2 q hq⟩
theorem gr_ia {D : Nat → Prop} {h h' : Hp} {c : Nat} (G : Gr D h h') (hD : ∀ a, c + 1 ≤ a → a < c + 66 → a < c + 4 ∨ c + 8 ≤ a → ¬ D a) (r : hpR h' c = hpR h c) (rm : hpR h' (c + 66) = hpR h (c + 66)) (x : IA h c) : IA h' c := by
  obtain ⟨a1, a2, a3, a4, a5, a6, a7, a8⟩ := x
  have hs : c + 124 ≤ hpS h := a1.2.2.2.2.2.2.2.2.2.2.2.2.2.2.2.2
  have K : ∀ o, o < 124 → hpK h' (c + o) = hpK h (c + o) := fun o ho => (G.2 _ (by omega)).1
  have K0 : hpK h' c = hpK h c := K 0 (by omega)
  refine ⟨?_, fun i hi => ?_, ⟨by rw [K 1 (by omega)]; exact a3.1, ?_⟩, gr_s0 G (by omega) (fun a h1 h2 => hD a (by omega) (by omega) (by omega)) a4, gr_sn G (by omega) (fun a h1 h2 => hD a (by omega) (by omega) (by omega)) a5, gr_s0 G (by omega) (fun a h1 h2 => hD a (by omega) (by omega) (by omega)) a6, gr_sn G (by omega) (fun a h1 h2 => hD a (by omega) (by omega) (by omega)) a7, gr_ro G (by omega) rm a8⟩
  · have := G.1
    obtain ⟨x1, x2, x3, x4, x5, x6, x7, x8, x9, x10, x11, x12, x13, x14, x15, x16, x17⟩ := a1
    refine ⟨by rw [K0]; exact x1, by rw [r]; exact x2, by rw [r]; exact x3, by rw [r]; exact x4, by rw [r]; exact x5, by rw [r]; exact x6, by rw [r]; exact x7, by rw [r]; exact x8, by rw [r]; exact x9, by rw [K 4 (by omega)]; exact x10, by rw [K 5 (by omega)]; exact x11, by rw [K 6 (by omega)]; exact x12, by rw [K 7 (by omega)]; exact x13, by rw [K 2 (by omega)]; exact x14, by rw [((G.2 (c + 2) (by omega)).2 (hD _ (by omega) (by omega) (by omega))).2.2]; exact x15, by rw [K 3 (by omega)]; exact x16, by omega⟩
  · rw [((G.2 (c + 3) (by omega)).2 (hD _ (by omega) (by omega) (by omega))).2.1]; exact a2 i hi
  · rw [((G.2 (c + 1) (by omega)).2 (hD _ (by omega) (by omega) (by omega))).2.1]; exact a3.2
theorem gr_bk {D : Nat → Prop} {h h' : Hp} {c a sz i : Nat} {τ τ' : Nat → Nat} (G : Gr D h h') (ht : ∀ x, x < hpS h → τ' x = τ x) (B : BK h c τ a sz i) : BK h' c τ' a sz i := ⟨B.1, Nat.le_trans B.2.1 G.1, fun x h1 h2 => by rw [ht x (by have := B.2.1; omega)]; exact B.2.2 x h1 h2⟩
def upB (ex : Nat → Bool) (d : Nat) : Nat → Bool := fun s => if s = d then true else ex s
theorem ig_store {b : Nat} {h h' : Hp} {c nl ns nr d : Nat} {Lw nv nn Ob : Nat → Nat} {ex : Nat → Bool} {rl : Nat → Nat} {Rc : Nat → RecT} {τ : Nat → Nat} (I : IG b h c 9 nl ns nr Lw nv nn Ob ex rl Rc τ) (G : Gr (fun a => a = c + 7 ∨ a = c + 66 + 23) h h') (hS : hpS h' = hpS h + 41) (d4 : 4 ≤ d) (d9 : d < 9) (x : RX h' (hpS h) (c + 1)) (r7 : hpR h' (c + 7) = up1 (hpR h (c + 7)) (d - 4) (some (hpS h))) (f23 : ∀ p, p < 4 → hpI h' (c + 66 + 23) p = if p = d - 4 then 1 else hpI h (c + 66 + 23) p) : IG b h' c d nl ns nr Lw nv nn (up1 Ob d (hpS h)) (upB ex d) rl Rc (fun x => if x < hpS h then τ x else 16 + d) := by
  obtain ⟨i1, i2, i3, i4, i5, i6, i7, i8, i9, i10, i11, i12, i13⟩ := I
  have hs : c + 124 ≤ hpS h := i1.1.2.2.2.2.2.2.2.2.2.2.2.2.2.2.2.2
  have ht : ∀ x, x < hpS h → (fun x => if x < hpS h then τ x else 16 + d) x = τ x := fun x hx => if_pos hx
  have q : ∀ a, a < hpS h → a ≠ c + 7 → a ≠ c + 66 + 23 → hpI h' a = hpI h a ∧ hpD h' a = hpD h a ∧ hpR h' a = hpR h a := fun a ha h1 h2 => (G.2 a ha).2 (by omega)
  have me : ME h h' (c + 66) := fun o h1 h2 => ⟨(q _ (by omega) (by omega) (by omega)).1, (q _ (by omega) (by omega) (by omega)).2.1⟩
  have rr : ∀ s n A, RR h (c + 66) s n A → RR h' (c + 66) s n A := fun s n A R => by
    obtain ⟨r1, r2, r3, r4, r5, r6, r7, r8, r9⟩ := R
    have e : ∀ o, 14 ≤ o → o < 44 → o ≠ 23 → hpI h' (c + 66 + o) = hpI h (c + 66 + o) ∧ hpD h' (c + 66 + o) = hpD h (c + 66 + o) := fun o h1 h2 h3 => ⟨(q _ (by omega) (by omega) (by omega)).1, (q _ (by omega) (by omega) (by omega)).2.1⟩
    refine ⟨fun o h1 h2 => by rw [(e o (by omega) (by omega) (by omega)).1]; exact r1 o h1 h2, by rw [(e 36 (by omega) (by omega) (by omega)).1]; exact r2, fun o h1 h2 => by rw [(e o (by omega) (by omega) (by omega)).2]; exact r3 o h1 h2, by rw [(e 37 (by omega) (by omega) (by omega)).2]; exact r4, by rw [(e 38 (by omega) (by omega) (by omega)).2]; exact r5, fun i hi => by rw [(e 29 (by omega) (by omega) (by omega)).2]; exact r6 i hi, fun o h1 h2 j hj => by rw [(e o (by omega) (by omega) (by omega)).1]; exact r7 o h1 h2 j hj, fun j hj => by rw [(e 34 (by omega) (by omega) (by omega)).1, (e 35 (by omega) (by omega) (by omega)).2]; exact r8 j hj, fun st => ⟨fun o h1 h2 i hi => by rw [(e o (by omega) (by omega) (by omega)).2]; exact (r9 st).1 o h1 h2 i hi, fun j hj i hi => by rw [(e 43 (by omega) (by omega) (by omega)).2]; exact (r9 st).2.1 j hj i hi, fun t i hi => by rw [(e 43 (by omega) (by omega) (by omega)).2]; exact (r9 st).2.2 t i hi⟩⟩
  have hob : ∀ s, s ≠ d → up1 Ob d (hpS h) s = Ob s := fun s hsd => up1_ne hsd
  have hex : ∀ s, s ≠ d → upB ex d s = ex s := fun s hsd => by unfold upB; rw [if_neg hsd]
  refine ⟨gr_ia G (fun a h1 h2 h3 z => by omega) (q c (by omega) (by omega) (by omega)).2.2 (q _ (by omega) (by omega) (by omega)).2.2 i1, ?_, fun l hl => ?_, fun l h1 h2 => ?_, ?_, fun s hs9 he => ?_, fun s hs8 he hne => ?_, fun s hs4 => ?_, fun p hp => ?_, fun p hp => ?_, fun l hl => gr_bk G ht (i11 l hl), fun s hs8 S hS2 => ?_, fun s hs9 he => ?_⟩
  · unfold IC
    rw [(q c (by omega) (by omega) (by omega)).1, (q (c + 66) (by omega) (by omega) (by omega)).1]
    exact i2
  · obtain ⟨l1, l2, l3, l4, l5, l6⟩ := i3 l hl
    have bl := i11 l hl
    have bl1 := bl.1
    have bl2 := bl.2.1
    exact ⟨by rw [(q (c + 4) (by omega) (by omega) (by omega)).2.2]; exact l1, gr_lo G (by omega) (by omega) (by omega) l2, me_lw me l3, me_lr me (fun o h1 _ _ => ⟨(q _ (by omega) (by omega) (by omega)).1, (q _ (by omega) (by omega) (by omega)).2.1⟩) l4, gr_rn G (by omega) (by omega) (by omega) l5, me_sde me (q _ (by omega) (by omega) (by omega)).1 l6⟩
  · rw [(me 3 (by omega) (by omega)).1, (me 4 (by omega) (by omega)).1, (me 9 (by omega) (by omega)).2]; exact i4 l h1 h2
  · obtain ⟨j1, j2, j3, j4⟩ := i5
    refine ⟨me_sg me j1, me_sv me j2, me_sgc me (G.2 _ (by omega)).1 (q _ (by omega) (by omega) (by omega)).2.2 (fun s hs8 S hS2 => ?_) j3, fun s h1 h2 => by rw [(me 11 (by omega) (by omega)).1]; exact j4 s h1 h2⟩
    have bS := i12 s hs8 S hS2
    have b1 := bS.1
    have b2 := bS.2.1
    obtain ⟨S', p, t1, t2, -⟩ := j3.2 s hs8
    have eS : S' = S := by rw [hS2] at t1; exact (Option.some.inj t1).symm
    subst eS
    exact ⟨gr_so G (by omega) (by omega) t2, fun o ho => ⟨(q _ (by omega) (by omega) (by omega)).1, (q _ (by omega) (by omega) (by omega)).2.1⟩⟩
  · by_cases e : s = d
    · subst e; rw [up1_self]; exact x
    · rw [hex s e] at he
      rw [hob s e]
      have b := i13 s hs9 he
      have b1 := b.1
      have b2 := b.2.1
      exact gr_rx G (by omega) (fun a h1 h2 z => by omega) (i6 s hs9 he)
  · rw [hex s hne] at he
    rw [hob s hne]
    have b := i13 s (by omega) he
    have b1 := b.1
    have b2 := b.2.1
    obtain ⟨hl, t1, t2, t3, t4, t5, t6⟩ := i7 s hs8 he (by omega)
    exact ⟨hl, me_sd me t1, t2, rr _ _ _ t3, gr_cr t4 G (by omega) (fun a h1 h2 z => by omega), t5, by rw [(q _ (by omega) (by omega) (by omega)).2.2]; exact t6⟩
  · have hne : s ≠ d := by omega
    obtain ⟨k1, k2, k3⟩ := i8 s hs4
    rw [hex s hne, hob s hne]
    exact ⟨k1, fun z => by rw [(q _ (by omega) (by omega) (by omega)).2.2]; exact k2 z, fun z => rr _ _ _ (k3 z)⟩
  · rw [r7]
    by_cases e : p = d - 4
    · subst e
      rw [up1_self, show 4 + (d - 4) = d by omega, up1_self]
      unfold upB
      rw [if_pos rfl, if_pos rfl]
    · rw [up1_ne e, hex _ (by omega), hob _ (by omega)]; exact i9 p hp
  · rw [f23 p hp]
    by_cases e : p = d - 4
    · rw [if_pos e]
      unfold upB
      rw [if_pos (show 4 + p = d by omega), if_pos rfl]
    · rw [if_neg e, hex _ (by omega)]; exact i10 p hp
  · rw [(q (c + 5) (by omega) (by omega) (by omega)).2.2] at hS2
    exact gr_bk G ht (i12 s hs8 S hS2)
  · by_cases e : s = d
    · subst e
      rw [up1_self]
      exact ⟨hs, by omega, fun x h1 h2 => if_neg (by omega)⟩
    · rw [hex s e] at he
      rw [hob s e]
      exact gr_bk G ht (i13 s hs9 he)
