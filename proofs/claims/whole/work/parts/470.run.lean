/-! ===== a run begins ===== -/
theorem A0_1 (l : Int32) (t : UInt64) (o j : Nat) : (A0 l t).1 o j = if o = 14 then l else 0 := by
  unfold A0
  by_cases z : o = 14
  · simp only [if_pos z]
  · simp only [if_neg z]
theorem A0_2 (l : Int32) (t : UInt64) (o j : Nat) : (A0 l t).2 o j = if o = 24 then t else if o = 25 then 4593671619917905920 else if o = 26 then 4517110426252607488 else 0 := by
  unfold A0
  by_cases z : o = 24
  · simp only [if_pos z]
  · by_cases z2 : o = 25
    · simp only [if_neg z, if_pos z2]
    · by_cases z3 : o = 26
      · simp only [if_neg z, if_neg z2, if_pos z3]
      · simp only [if_neg z, if_neg z2, if_neg z3]
theorem va_fresh {T B n N l : Nat} {t : UInt64} (nm : Nm t) (nz : t ≠ mz) : VA T B n N (A0 (nI l) t) := by
  have e1 : ∀ o j, o ≠ 14 → (A0 (nI l) t).1 o j = 0 := fun o j h => by rw [A0_1, if_neg h]
  have e2 : ∀ o j, o ≠ 24 → o ≠ 25 → o ≠ 26 → (A0 (nI l) t).2 o j = 0 := fun o j h1 h2 h3 => by rw [A0_2, if_neg h1, if_neg h2, if_neg h3]
  have e24 : (A0 (nI l) t).2 24 0 = t := by rw [A0_2, if_pos rfl]
  have e25 : (A0 (nI l) t).2 25 0 = 4593671619917905920 := by rw [A0_2, if_neg (by omega), if_pos rfl]
  have e26 : (A0 (nI l) t).2 26 0 = 4517110426252607488 := by rw [A0_2, if_neg (by omega), if_neg (by omega), if_pos rfl]
  have n0 : Nm 0 := nm_0
  have f0 : Fn 0 := by unfold Fn; decide +kernel
  have b0 : HB 0 := by unfold HB; decide +kernel
  have z22 : (A0 (nI l) t).1 22 0 = 0 := e1 22 0 (by omega)
  have ne1 : ¬ (0 : Int32) = 1 := by decide
  refine ⟨⟨0, e1 15 0 (by omega), by omega⟩, ⟨0, e1 16 0 (by omega), by omega, fun j hj => by omega⟩, ⟨0, e1 17 0 (by omega), by omega, ⟨fun z => absurd (z22.symm.trans z) ne1, fun z => by omega⟩⟩, ⟨0, e1 20 0 (by omega), by omega⟩, Or.inl (e1 21 0 (by omega)), Or.inl z22, ⟨by rw [e24]; exact nm, by rw [e24]; exact nz⟩, ?_, ?_, ?_, ?_, ?_, ?_, ?_, fun z => absurd (z22.symm.trans z) ne1⟩
  · rw [e25]; unfold HB; decide +kernel
  · rw [e26]; unfold Fn; decide +kernel
  · rw [e2 27 0 (by omega) (by omega) (by omega)]; exact ⟨f0, by decide +kernel⟩
  · rw [e2 28 0 (by omega) (by omega) (by omega)]; exact n0
  · rw [e2 38 0 (by omega) (by omega) (by omega)]; exact b0
  · intro i hi; rw [e2 29 i (by omega) (by omega) (by omega)]; exact Or.inl n0
  · intro j hj; rw [e2 35 j (by omega) (by omega) (by omega)]; exact n0
theorem ig_run {b : Nat} {h h' : Hp} {c nl ns nr l : Nat} {Lw nv nn Ob : Nat → Nat} {ex : Nat → Bool} {rl : Nat → Nat} {Rc : Nat → RecT} {τ : Nat → Nat} {t : UInt64} (I : IG b h c 9 nl ns nr Lw nv nn Ob ex rl Rc τ) (hl : l < nl) (hnr : nr < 4) (sd : SdOK h (c + 66) l (nv l) (nn l)) (nm : Nm t) (nz : t ≠ mz)
    (G : Gr (fun a => a = c ∨ a = c + 6 ∨ a = c + 66 ∨ a = c + 66 + 14 ∨ a = c + 66 + 24 ∨ a = c + 66 + 25 ∨ a = c + 66 + 26) h h') (hS : hpS h' = hpS h + 41) (x : RX h' (hpS h) (c + 1)) (cr : CR h' (hpS h) (nv l) (A0 (nI l) t)) (r0 : hpR h' (hpS h) 0 = some (Lw l)) (rc : hpR h' c = hpR h c) (rm : hpR h' (c + 66) = hpR h (c + 66)) (r6 : hpR h' (c + 6) = up1 (hpR h (c + 6)) nr (some (hpS h)))
    (ic : ∀ j, hpI h' c j = if j = 7 then nI (nr + 1) else hpI h c j) (im : ∀ j, hpI h' (c + 66) j = if j = 45 then nI (nr + 1) else hpI h (c + 66) j) (i14 : ∀ j, hpI h' (c + 66 + 14) j = if j = nr then nI l else hpI h (c + 66 + 14) j) (d24 : ∀ j, hpD h' (c + 66 + 24) j = if j = nr then t else hpD h (c + 66 + 24) j) (d25 : ∀ j, hpD h' (c + 66 + 25) j = if j = nr then 4593671619917905920 else hpD h (c + 66 + 25) j) (d26 : ∀ j, hpD h' (c + 66 + 26) j = if j = nr then 4517110426252607488 else hpD h (c + 66 + 26) j) : INV b h' c := by
  obtain ⟨i1, i2, i3, i4, i5, i6, i7, i8, i9, i10, i11, i12, i13⟩ := I
  have hs := xo_S i1.1
  have ht : ∀ x, x < hpS h → (fun x => if x < hpS h then τ x else 16 + nr) x = τ x := fun x hx => if_pos hx
  have q : ∀ a, a < hpS h → a ≠ c → a ≠ c + 6 → a ≠ c + 66 → a ≠ c + 66 + 14 → a ≠ c + 66 + 24 → a ≠ c + 66 + 25 → a ≠ c + 66 + 26 → hpI h' a = hpI h a ∧ hpD h' a = hpD h a ∧ hpR h' a = hpR h a := fun a ha h1 h2 h3 h4 h5 h6 h7 => (G.2 a ha).2 (by omega)
  have me : ME h h' (c + 66) := fun o h1 h2 => ⟨(q _ (by omega) (by omega) (by omega) (by omega) (by omega) (by omega) (by omega) (by omega)).1, (q _ (by omega) (by omega) (by omega) (by omega) (by omega) (by omega) (by omega) (by omega)).2.1⟩
  have qm : ∀ o, 1 ≤ o → o < 58 → o ≠ 14 → o ≠ 24 → o ≠ 25 → o ≠ 26 → hpI h' (c + 66 + o) = hpI h (c + 66 + o) ∧ hpD h' (c + 66 + o) = hpD h (c + 66 + o) := fun o h1 h2 h3 h4 h5 h6 => ⟨(q _ (by omega) (by omega) (by omega) (by omega) (by omega) (by omega) (by omega) (by omega)).1, (q _ (by omega) (by omega) (by omega) (by omega) (by omega) (by omega) (by omega) (by omega)).2.1⟩
  have JI : ∀ o, 14 ≤ o → o ≤ 22 → ∀ j, hpI h' (c + 66 + o) j = if o = 14 ∧ j = nr then nI l else hpI h (c + 66 + o) j := fun o h1 h2 j => by
    by_cases z : o = 14
    · rw [z, i14]
      by_cases w : j = nr
      · rw [if_pos w, if_pos ⟨rfl, w⟩]
      · rw [if_neg w, if_neg (fun u => w u.2)]
    · rw [(qm o (by omega) (by omega) (by omega) (by omega) (by omega) (by omega)).1, if_neg (fun u => z u.1)]
  have JD : ∀ o, 24 ≤ o → o ≤ 28 → ∀ j, j ≠ nr → hpD h' (c + 66 + o) j = hpD h (c + 66 + o) j := fun o h1 h2 j hj => by
    by_cases z : o = 24
    · rw [z, d24, if_neg hj]
    · by_cases z1 : o = 25
      · rw [z1, d25, if_neg hj]
      · by_cases z2 : o = 26
        · rw [z2, d26, if_neg hj]
        · rw [(qm o (by omega) (by omega) (by omega) (by omega) (by omega) (by omega)).2]
  have rr : ∀ s n A, s ≠ nr → RR h (c + 66) s n A → RR h' (c + 66) s n A := fun s n A hne R => by
    obtain ⟨r1, r2, r3, r4, r5, r6, r7, r8, r9⟩ := R
    refine ⟨fun o h1 h2 => by rw [JI o h1 h2, if_neg (fun u => hne u.2)]; exact r1 o h1 h2, by rw [(qm 36 (by omega) (by omega) (by omega) (by omega) (by omega) (by omega)).1]; exact r2, fun o h1 h2 => by rw [JD o h1 h2 s hne]; exact r3 o h1 h2, by rw [(qm 37 (by omega) (by omega) (by omega) (by omega) (by omega) (by omega)).2]; exact r4, by rw [(qm 38 (by omega) (by omega) (by omega) (by omega) (by omega) (by omega)).2]; exact r5, fun i hi => by rw [(qm 29 (by omega) (by omega) (by omega) (by omega) (by omega) (by omega)).2]; exact r6 i hi, fun o h1 h2 j hj => by rw [(qm o (by omega) (by omega) (by omega) (by omega) (by omega) (by omega)).1]; exact r7 o h1 h2 j hj, fun j hj => by rw [(qm 34 (by omega) (by omega) (by omega) (by omega) (by omega) (by omega)).1, (qm 35 (by omega) (by omega) (by omega) (by omega) (by omega) (by omega)).2]; exact r8 j hj, fun st => ⟨fun o h1 h2 i hi => by rw [(qm o (by omega) (by omega) (by omega) (by omega) (by omega) (by omega)).2]; exact (r9 st).1 o h1 h2 i hi, fun j hj i hi => by rw [(qm 43 (by omega) (by omega) (by omega) (by omega) (by omega) (by omega)).2]; exact (r9 st).2.1 j hj i hi, fun t i hi => by rw [(qm 43 (by omega) (by omega) (by omega) (by omega) (by omega) (by omega)).2]; exact (r9 st).2.2 t i hi⟩⟩
  have n6 : nv l ≤ 6 := (i3 l hl).2.2.1.2.2.2.1
  have rnew : RR h' (c + 66) nr (nv l) (A0 (nI l) t) := by
    obtain ⟨r1, r2, r3, r4, r5, r6', r7, r8, -⟩ := (i8 nr hnr).2.2 (Nat.le_refl _)
    refine ⟨fun o h1 h2 => ?_, ?_, fun o h1 h2 => ?_, ?_, ?_, fun i hi => ?_, fun o h1 h2 j hj => ?_, fun j hj => ?_, fun st => ?_⟩
    · rw [JI o h1 h2, A0_1]
      by_cases z : o = 14
      · rw [if_pos ⟨z, rfl⟩, if_pos z]
      · rw [if_neg (fun u => z u.1), if_neg z]; exact r1 o h1 h2
    · rw [(qm 36 (by omega) (by omega) (by omega) (by omega) (by omega) (by omega)).1, A0_1, if_neg (by omega)]; exact r2
    · rw [A0_2]
      by_cases z : o = 24
      · rw [z, d24, if_pos rfl, if_pos rfl]
      · by_cases z1 : o = 25
        · rw [z1, d25, if_pos rfl, if_neg (by omega), if_pos rfl]
        · by_cases z2 : o = 26
          · rw [z2, d26, if_pos rfl, if_neg (by omega), if_neg (by omega), if_pos rfl]
          · rw [(qm o (by omega) (by omega) (by omega) (by omega) (by omega) (by omega)).2, if_neg z, if_neg z1, if_neg z2]; exact r3 o h1 h2
    · rw [(qm 37 (by omega) (by omega) (by omega) (by omega) (by omega) (by omega)).2, A0_2, if_neg (by omega), if_neg (by omega), if_neg (by omega)]; exact r4
    · rw [(qm 38 (by omega) (by omega) (by omega) (by omega) (by omega) (by omega)).2, A0_2, if_neg (by omega), if_neg (by omega), if_neg (by omega)]; exact r5
    · rw [(qm 29 (by omega) (by omega) (by omega) (by omega) (by omega) (by omega)).2, A0_2, if_neg (by omega), if_neg (by omega), if_neg (by omega)]; exact r6' i (by omega)
    · rw [(qm o (by omega) (by omega) (by omega) (by omega) (by omega) (by omega)).1, A0_1, if_neg (by omega)]; exact r7 o h1 h2 j hj
    · rw [(qm 34 (by omega) (by omega) (by omega) (by omega) (by omega) (by omega)).1, (qm 35 (by omega) (by omega) (by omega) (by omega) (by omega) (by omega)).2, A0_1, A0_2, if_neg (by omega), if_neg (by omega), if_neg (by omega), if_neg (by omega)]; exact r8 j hj
    · rw [A0_1, if_neg (by omega)] at st
      exact absurd st (by decide)
  have hob : ∀ s, s ≠ nr → up1 Ob nr (hpS h) s = Ob s := fun s hsd => up1_ne hsd
  have hex : ∀ s, s ≠ nr → upB ex nr s = ex s := fun s hsd => by unfold upB; rw [if_neg hsd]
  obtain ⟨c1, c2, c3, c4, c5, c6, c7, c8, c9⟩ := i2
  refine ⟨nl, ns, nr + 1, Lw, nv, nn, up1 Ob nr (hpS h), upB ex nr, up1 rl nr l, up1 Rc nr (A0 (nI l) t), fun x => if x < hpS h then τ x else 16 + nr, gr_ia G (fun a h1 h2 h3 z => by omega) rc rm i1, ?_, fun l' hl' => ?_, fun l' h1 h2 => ?_, ?_, fun s hs9 he => ?_, fun s hs8 he hne => ?_, fun s hs4 => ?_, fun p hp => ?_, fun p hp => ?_, fun l' hl' => gr_bk G ht (i11 l' hl'), fun s hs8 S hS2 => ?_, fun s hs9 he => ?_⟩
  · exact ⟨c1, c2, by omega, by rw [ic, if_neg (by omega)]; exact c4, by rw [ic, if_neg (by omega)]; exact c5, by rw [ic, if_pos rfl], by rw [im, if_neg (by omega)]; exact c7, by rw [im, if_neg (by omega)]; exact c8, by rw [im, if_pos rfl]⟩
  · obtain ⟨l1, l2, l3, l4, l5, l6⟩ := i3 l' hl'
    have bl := i11 l' hl'
    have bl1 := bl.1
    have bl2 := bl.2.1
    exact ⟨by rw [(q (c + 4) (by omega) (by omega) (by omega) (by omega) (by omega) (by omega) (by omega) (by omega)).2.2]; exact l1, gr_lo G (by omega) (by omega) (by omega) l2, me_lw me l3, me_lr me (fun o h1 _ _ => ⟨(q _ (by omega) (by omega) (by omega) (by omega) (by omega) (by omega) (by omega) (by omega)).1, (q _ (by omega) (by omega) (by omega) (by omega) (by omega) (by omega) (by omega) (by omega)).2.1⟩) l4, gr_rn G (by omega) (by omega) (by omega) l5, me_sde me (q _ (by omega) (by omega) (by omega) (by omega) (by omega) (by omega) (by omega) (by omega)).1 l6⟩
  · rw [(me 3 (by omega) (by omega)).1, (me 4 (by omega) (by omega)).1, (me 9 (by omega) (by omega)).2]; exact i4 l' h1 h2
  · obtain ⟨j1, j2, j3, j4⟩ := i5
    refine ⟨me_sg me j1, me_sv me j2, me_sgc me (G.2 _ (by omega)).1 (q _ (by omega) (by omega) (by omega) (by omega) (by omega) (by omega) (by omega) (by omega)).2.2 (fun s hs8 S hS2 => ?_) j3, fun s h1 h2 => by rw [(me 11 (by omega) (by omega)).1]; exact j4 s h1 h2⟩
    have bS := i12 s hs8 S hS2
    have b1 := bS.1
    have b2 := bS.2.1
    obtain ⟨S', p, t1, t2, -⟩ := j3.2 s hs8
    have eS : S' = S := by rw [hS2] at t1; exact (Option.some.inj t1).symm
    subst eS
    exact ⟨gr_so G (by omega) (by omega) t2, fun o ho => ⟨(q _ (by omega) (by omega) (by omega) (by omega) (by omega) (by omega) (by omega) (by omega)).1, (q _ (by omega) (by omega) (by omega) (by omega) (by omega) (by omega) (by omega) (by omega)).2.1⟩⟩
  · by_cases e : s = nr
    · subst e; rw [up1_self]; exact x
    · rw [hex s e] at he
      rw [hob s e]
      have b := i13 s hs9 he
      have b1 := b.1
      have b2 := b.2.1
      exact gr_rx G (by omega) (fun a h1 h2 z => by omega) (i6 s hs9 he)
  · by_cases e : s = nr
    · subst e
      rw [up1_self, up1_self, up1_self]
      exact ⟨hl, me_sd me sd, by rw [A0_1, if_pos rfl], rnew, cr, va_fresh nm nz, r0⟩
    · rw [hex s e] at he
      rw [hob s e, up1_ne e, up1_ne e]
      have b := i13 s (by omega) he
      have b1 := b.1
      have b2 := b.2.1
      obtain ⟨hl', t1, t2, t3, t4, t5, t6⟩ := i7 s hs8 he (by omega)
      exact ⟨hl', me_sd me t1, t2, rr _ _ _ e t3, gr_cr t4 G (by omega) (fun a h1 h2 z => by omega), t5, by rw [(q _ (by omega) (by omega) (by omega) (by omega) (by omega) (by omega) (by omega) (by omega)).2.2]; exact t6⟩
  · obtain ⟨k1, k2, k3⟩ := i8 s hs4
    by_cases e : s = nr
    · subst e
      rw [up1_self]
      refine ⟨⟨fun _ => by omega, fun _ => by unfold upB; rw [if_pos rfl]⟩, fun _ => by rw [r6, up1_self], fun z => by omega⟩
    · rw [hex s e, hob s e, r6, up1_ne e]
      refine ⟨⟨fun z => by have := k1.mp z; omega, fun z => k1.mpr (by omega)⟩, fun z => k2 (by omega), fun z => rr _ _ _ e (k3 (by omega))⟩
  · rw [(q (c + 7) (by omega) (by omega) (by omega) (by omega) (by omega) (by omega) (by omega) (by omega)).2.2, hex _ (by omega), hob _ (by omega)]; exact i9 p hp
  · rw [(qm 23 (by omega) (by omega) (by omega) (by omega) (by omega) (by omega)).1, hex _ (by omega)]; exact i10 p hp
  · rw [(q (c + 5) (by omega) (by omega) (by omega) (by omega) (by omega) (by omega) (by omega) (by omega)).2.2] at hS2
    exact gr_bk G ht (i12 s hs8 S hS2)
  · by_cases e : s = nr
    · subst e
      rw [up1_self]
      exact ⟨hs, by omega, fun x h1 h2 => if_neg (by omega)⟩
    · rw [hex s e] at he
      rw [hob s e]
      exact gr_bk G ht (i13 s hs9 he)
