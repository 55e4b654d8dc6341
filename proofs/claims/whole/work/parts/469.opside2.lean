theorem ig_side {bb : Nat} {h : Hp} {c nl ns nr : Nat} {Lw nv nn Ob : Nat → Nat} {ex : Nat → Bool} {rl : Nat → Nat} {Rc : Nat → RecT} {τ : Nat → Nat} (I : IG bb h c 9 nl ns nr Lw nv nn Ob ex rl Rc τ) {l i q E : Nat} (hl : l < nl) (hi : i < nv l) (hq : q < nn l) (hE : E ≤ nn l) (cov : ∀ j, j < nv l → ∀ q', q' < nn l → hpI (stI h (Lw l + 9) i (nI q)) (Lw l + 9) j = nI q' → q' < E) : INV bb (stI (stI (stI h (Lw l + 9) i (nI q)) (Lw l) 12 (nI E)) (c + 66 + 4) (6 * l + i) (nI q)) c := by
  have X := I.1.1
  have hS := xo_S X
  obtain ⟨c1, c2, c3, c4, c5, c6, c7, c8, c9⟩ := I.2.1
  obtain ⟨l1, l2, l3, l4, l5, l6⟩ := I.2.2.1 l hl
  have bL := I.2.2.2.2.2.2.2.2.2.2.1 l hl
  obtain ⟨L, hLw⟩ : ∃ x, Lw l = x := ⟨_, rfl⟩
  rw [hLw] at l1 l2 l4 l5 l6 bL cov
  rw [hLw]
  have bL1 := bL.1
  have bL2 := bL.2.1
  generalize e1 : stI (stI h (L + 9) i (nI q)) L 12 (nI E) = h1
  generalize e2 : stI h1 (c + 66 + 4) (6 * l + i) (nI q) = h2
  have G1 : Gr (fun a => a = L ∨ a = L + 9) h h1 := by rw [← e1]; exact (gr_stI (by omega)).trans (gr_stI (by omega))
  have G12 : Gr (fun a => a = c + 66 + 4) h1 h2 := by rw [← e2]; exact gr_stI (by omega)
  have G2 : Gr (fun a => a = L ∨ a = L + 9 ∨ a = c + 66 + 4) h h2 := (G1.mono (fun a _ z => by omega)).trans (G12.mono (fun a _ z => by omega))
  have S1 : hpS h1 = hpS h := by rw [← e1]; rfl
  have rR : hpR h2 = hpR h := by rw [← e2, ← e1]; rfl
  have kK : hpK h2 = hpK h := by rw [← e2, ← e1]; rfl
  have q2 : ∀ a, a < hpS h → a ≠ L → a ≠ L + 9 → a ≠ c + 66 + 4 → hpI h2 a = hpI h a ∧ hpD h2 a = hpD h a := fun a ha z1 z2 z3 => ⟨((G2.2 a ha).2 (by omega)).1, ((G2.2 a ha).2 (by omega)).2.1⟩
  have c9' : ∀ j, hpI h2 (L + 9) j = if j = i then nI q else hpI h (L + 9) j := fun j => by
    rw [((G12.2 _ (by omega)).2 (by omega)).1, ← e1, hpI_stI_ne (Or.inl (by omega)), hpI_stI, if_pos rfl]
  have c12 : hpI h2 L 12 = nI E := by rw [((G12.2 _ (by omega)).2 (by omega)).1, ← e1, hpI_stI_self]
  have cL : ∀ j, j ≠ 12 → hpI h2 L j = hpI h L j := fun j hj => by
    rw [((G12.2 _ (by omega)).2 (by omega)).1, ← e1, hpI_stI_ne (Or.inr hj), hpI_stI_ne (Or.inl (by omega))]
  have m4 : ∀ j, hpI h2 (c + 66 + 4) j = if j = 6 * l + i then nI q else hpI h (c + 66 + 4) j := fun j => by
    rw [← e2, hpI_stI, if_pos rfl, ((G1.2 _ (by omega)).2 (by omega)).1]
  have mm : ∀ o, o < 58 → o ≠ 4 → hpI h2 (c + 66 + o) = hpI h (c + 66 + o) ∧ hpD h2 (c + 66 + o) = hpD h (c + 66 + o) := fun o h1 h2 => q2 _ (by omega) (by omega) (by omega) (by omega)
  have ll : ∀ o, 1 ≤ o → o < 9 → hpI h2 (L + o) = hpI h (L + o) ∧ hpD h2 (L + o) = hpD h (L + o) := fun o h1 h2 => q2 _ (by omega) (by omega) (by omega) (by omega)
  have hn6 := l3.2.2.2.1
  refine ig_bld (D := fun a => a = L ∨ a = L + 9 ∨ a = c + 66 + 4) (nl' := nl) (ns' := ns) (Lw' := Lw) (nv' := nv) (nn' := nn) (τ' := τ) I G2 (fun a _ z => ?_) (fun x hx => rfl) (by rw [rR]) (by rw [rR]) ?_ ?_ ?_ ?_ ?_ ?_ ⟨by omega, fun l' hl' => ?_⟩
  · by_cases w : a = c + 66 + 4
    · omega
    · right; right; right; right
      exact ⟨by omega, by rw [bL.2.2 a (by omega) (by omega)]; omega⟩
  · unfold IC
    rw [(q2 c (by omega) (by omega) (by omega) (by omega)).1, (q2 (c + 66) (by omega) (by omega) (by omega) (by omega)).1]
    exact I.2.1
  · intro l' hl'
    by_cases e : l' = l
    · subst e
      rw [hLw]
      obtain ⟨w1, w2, w3, w4, w5, w6, w7⟩ := l3
      obtain ⟨g1, g2, g3, g4, g5, g6⟩ := l4
      obtain ⟨⟨s1, s2⟩, E0, s3, s4, s5⟩ := l6
      have sd : ∀ j, j < nv l' → hpI h2 (c + 66 + 4) (6 * l' + j) = if j = i then nI q else hpI h (c + 66 + 4) (6 * l' + j) := fun j hj => by
        rw [m4]
        by_cases u : j = i
        · rw [if_pos u, if_pos (by omega)]
        · rw [if_neg u, if_neg (by omega)]
      refine ⟨by rw [rR]; exact l1, ?_, ⟨w1, w2, w3, w4, by rw [(mm 1 (by omega) (by omega)).1]; exact w5, by rw [(mm 3 (by omega) (by omega)).1]; exact w6, fun t ht => ?_⟩, ⟨by rw [cL 0 (by omega)]; exact g1, by rw [cL 1 (by omega)]; exact g2, by rw [cL 2 (by omega), (mm 2 (by omega) (by omega)).1]; exact g3, by rw [cL 10 (by omega)]; exact g4, fun t ht => ?_, fun j hj => ?_⟩, ?_, ⟨fun j hj => ?_, fun t h1 h2 => ?_⟩, E, c12, hE, fun j hj t ht z => ?_⟩
      · unfold LO RW at l2 ⊢; rw [kK, rR]; exact l2
      · rw [(mm 5 (by omega) (by omega)).1, (mm 6 (by omega) (by omega)).1, (mm 7 (by omega) (by omega)).1, (mm 8 (by omega) (by omega)).1, (mm 9 (by omega) (by omega)).2]; exact w7 t ht
      · rw [(mm 5 (by omega) (by omega)).1, (mm 6 (by omega) (by omega)).1, (mm 7 (by omega) (by omega)).1, (mm 8 (by omega) (by omega)).1, (mm 9 (by omega) (by omega)).2, (ll 1 (by omega) (by omega)).1, (ll 2 (by omega) (by omega)).1, (ll 3 (by omega) (by omega)).1, (ll 4 (by omega) (by omega)).1, (ll 5 (by omega) (by omega)).2]; exact g5 t ht
      · rw [sd j hj, c9', g6 j hj]
      · intro j hj
        rw [show L + 6 + 1 = L + 7 by omega, show L + 6 + 2 = L + 8 by omega, (ll 7 (by omega) (by omega)).2, (ll 8 (by omega) (by omega)).1]
        exact l5 j hj
      · rw [sd j hj]
        by_cases u : j = i
        · rw [if_pos u]; exact Or.inr ⟨q, hq, rfl⟩
        · rw [if_neg u]; exact s1 j hj
      · rw [(mm 9 (by omega) (by omega)).2]; exact s2 t h1 h2
      · refine cov j hj t ht ?_
        rw [sd j hj] at z
        rw [hpI_stI, if_pos rfl, g6 j hj]; exact z
    · have bl := I.2.2.2.2.2.2.2.2.2.2.1 l' hl'
      have bl1 := bl.1
      have dj := bk_dj bl bL (by omega) (by omega) (by omega)
      refine mel_li G2 ⟨fun o h1 h2 => by rw [(mm o (by omega) (by omega)).1], fun j hj => by rw [m4, if_neg (by omega)], fun t ht => ⟨fun o h1 h2 => by rw [(mm o (by omega) (by omega)).1], by rw [(mm 9 (by omega) (by omega)).2]⟩⟩ (by omega) bl.2.1 (fun a h1 h2 z => by omega) (by rw [rR]) (I.2.2.1 l' hl')
  · intro l' h1' h2'
    obtain ⟨u1, u2, u3⟩ := I.2.2.2.1 l' h1' h2'
    exact ⟨by rw [(mm 3 (by omega) (by omega)).1]; exact u1, fun j hj => by rw [m4, if_neg (by omega)]; exact u2 j hj, fun t ht => by rw [(mm 9 (by omega) (by omega)).2]; exact u3 t ht⟩
  · exact is_same G2 hS (fun o h1 h2 => mm o (by omega) (by omega)) (by rw [rR]) (fun s hs S hS2 => I.2.2.2.2.2.2.2.2.2.2.2.1 s hs S hS2) (fun s hs S hS2 a h1 h2 z => by
      have bS := I.2.2.2.2.2.2.2.2.2.2.2.1 s hs S hS2
      have bS1 := bS.1
      have dj := bk_dj bS bL (by omega) (by omega) (by omega)
      omega) I.2.2.2.2.1
  · intro l' hl'
    exact gr_bk G2 (fun x hx => rfl) (I.2.2.2.2.2.2.2.2.2.2.1 l' hl')
  · intro s' hs' S' hS2
    rw [rR] at hS2
    exact gr_bk G2 (fun x hx => rfl) (I.2.2.2.2.2.2.2.2.2.2.2.1 s' hs' S' hS2)
  · refine ⟨rfl, rfl, Nat.le_refl _, fun z j hj => ?_⟩
    have hn6' := (I.2.2.1 l' hl').2.2.1.2.2.2.1
    obtain ⟨s, z1, z2⟩ := z j hj
    rw [m4]
    by_cases u : 6 * l' + j = 6 * l + i
    · rw [if_pos u]
      have : l' = l := by omega
      exact ⟨q, rfl, by rw [this]; exact hq⟩
    · rw [if_neg u]; exact ⟨s, z1, z2⟩
theorem op_side {b : Nat} {h : Hp} {c : Nat} (I0 : INV b h c) (p0 p1 p2 : Int32) : ∃ a h1 h2, f_X8_side c p0 p1 p2 h = some (a, h1) ∧ f_X9_side (c + 66) p0 p1 p2 h1 = some (a, h2) ∧ INV (b + 1) h2 c := by
  have Ib := inv_mono (b' := b + 1) (by omega) I0
  obtain ⟨nl, ns, nr, Lw, nv, nn, Ob, ex, rl, Rc, τ, I⟩ := I0
  have X := I.1.1
  have H := I.1.2.2.2.2.2.2.2
  have hS := xo_S X
  obtain ⟨c1, c2, c3, c4, c5, c6, c7, c8, c9⟩ := I.2.1
  rcases in_cases p0 (N := nl) (by omega) with ⟨l, hl, rfl⟩ | hv
  · obtain ⟨l1, l2, l3, l4, l5, l6⟩ := I.2.2.1 l hl
    have bL := I.2.2.2.2.2.2.2.2.2.2.1 l hl
    have bL1 := bL.1
    have bL2 := bL.2.1
    have hN := l3.2.1
    have hn := l3.2.2.2.1
    have h1 := l3.2.2.2.2.1
    have h3 := l3.2.2.2.2.2.1
    rcases in_cases p1 (N := nv l) (by omega) with ⟨i, hi, rfl⟩ | hv
    · rcases in_cases p2 (N := nn l) (by omega) with ⟨q, hq, rfl⟩ | hv
      · have ec : f_X8_side c (nI l) (nI i) (nI q) h = f_X8_side_35 fuelN (some c) (nI i) (nI q) (some (Lw l)) (nI 0) h := by
          unfold f_X8_side
          rw [ck_ok X.1, Option.bind_some, c_lawAt_ok I hl, bnd_some, if_neg (by simp), ck_ok l2.1, Option.bind_some, hasV_ok l2 l4.2.1 hi hn, bnd_some, if_neg (by decide), ck_ok l2.1, Option.bind_some, hasN_ok l2 l4.2.2.2.1 hq hN, bnd_some, if_pos (by decide)]
          rfl
        have er : ∀ g : Hp, RO g (c + 66) → hpI g (c + 66) = hpI h (c + 66) → hpI g (c + 66 + 1) l = nI (nv l) → hpI g (c + 66 + 3) l = nI (nn l) → f_X9_side (c + 66) (nI l) (nI i) (nI q) g = f_X9_side_51 fuelN (some (c + 66)) (nI l) (nI i) (nI q) (nI 0) g := fun g Hg h9 h1' h3' => by
          unfold f_X9_side
          rw [getI_ok (ro_K Hg), Option.bind_some, h9, c7, r_in_ok hl (by omega), bnd_some, if_neg (by decide), ro_g0 Hg, Option.bind_some, ro_a0 Hg (by omega), Option.bind_some, h1', r_in_ok hi (by omega), bnd_some, if_neg (by decide), ro_g2 Hg, Option.bind_some, ro_a2 Hg (by omega), Option.bind_some, h3', r_in_ok hq (by omega), bnd_some, if_pos (by decide)]
          rfl
        have cl := c_sideloop I hl (nI i) (nI q) nr 0 fuelN (by omega) (by unfold fuelN; omega)
        have e14 : ∀ r, r < nr → hpI h (c + 66 + 14) r = nI (rl r) ∧ rl r < 8 := fun r hr => by
          have i8 := I.2.2.2.2.2.2.2.1 r (by omega)
          have he := i8.1.mpr hr
          obtain ⟨hrl, s1, s2, s3, -⟩ := I.2.2.2.2.2.2.1 r (by omega) he (by omega)
          exact ⟨by rw [s3.1 14 (by omega) (by omega)]; exact s2, by omega⟩
        rw [ec]
        by_cases z : ∃ r', 0 ≤ r' ∧ r' < nr ∧ rl r' = l
        · refine ⟨-2, h, h, cl.1 z, ?_, Ib⟩
          rw [er h H rfl h1 h3]
          exact (r_sideloop (q := q) H (by omega) (show i < 6 by omega) c9 c3 e14 nr 0 fuelN (by omega) (by unfold fuelN; omega)).1 z
        · have no : ∀ r', 0 ≤ r' → r' < nr → rl r' ≠ l := fun r' u1 u2 u3 => z ⟨r', u1, u2, u3⟩
          obtain ⟨E, u1, u2, u3⟩ := c_putSide l2 l4.2.1 hn hN hi hq (fun j hj => by rw [l4.2.2.2.2.2 j hj]; exact l6.1.1 j hj)
          have G1 : Gr (fun a => a = Lw l ∨ a = Lw l + 9) h (stI (stI h (Lw l + 9) i (nI q)) (Lw l) 12 (nI E)) := (gr_stI (by omega)).trans (gr_stI (by omega))
          have H1 : RO (stI (stI h (Lw l + 9) i (nI q)) (Lw l) 12 (nI E)) (c + 66) := H
          have qq : ∀ o, o < 58 → hpI (stI (stI h (Lw l + 9) i (nI q)) (Lw l) 12 (nI E)) (c + 66 + o) = hpI h (c + 66 + o) := fun o ho => ((G1.2 _ (by omega)).2 (by omega)).1
          have q0 : hpI (stI (stI h (Lw l + 9) i (nI q)) (Lw l) 12 (nI E)) (c + 66) = hpI h (c + 66) := qq 0 (by omega)
          refine ⟨1, _, _, by rw [cl.2 no, u1, bnd_some], ?_, ig_side (ig_mono (b' := b + 1) (by omega) I) hl hi hq u2 u3⟩
          rw [er _ H1 q0 (by rw [qq 1 (by omega)]; exact h1) (by rw [qq 3 (by omega)]; exact h3)]
          exact (r_sideloop (q := q) H1 (by omega) (show i < 6 by omega) (by rw [q0]; exact c9) c3 (fun r hr => by rw [qq 14 (by omega)]; exact e14 r hr) nr 0 fuelN (by omega) (by unfold fuelN; omega)).2 no
      · refine ⟨-1, h, h, ?_, ?_, Ib⟩
        · unfold f_X8_side f_X8_side_30
          rw [ck_ok X.1, Option.bind_some, c_lawAt_ok I hl, bnd_some, if_neg (by simp), ck_ok l2.1, Option.bind_some, hasV_ok l2 l4.2.1 hi hn, bnd_some, if_neg (by decide), ck_ok l2.1, Option.bind_some, hasN_no l2 l4.2.2.2.1 hv, bnd_some, if_neg (by decide)]
        · unfold f_X9_side f_X9_side_46
          rw [getI_ok (ro_K H), Option.bind_some, c7, r_in_ok hl (by omega), bnd_some, if_neg (by decide), ro_g0 H, Option.bind_some, ro_a0 H (by omega), Option.bind_some, h1, r_in_ok hi (by omega), bnd_some, if_neg (by decide), ro_g2 H, Option.bind_some, ro_a2 H (by omega), Option.bind_some, h3, r_in_no (by omega) hv, bnd_some, if_neg (by decide)]
    · refine ⟨-1, h, h, ?_, ?_, Ib⟩
      · unfold f_X8_side f_X8_side_30
        rw [ck_ok X.1, Option.bind_some, c_lawAt_ok I hl, bnd_some, if_neg (by simp), ck_ok l2.1, Option.bind_some, hasV_no l2 l4.2.1 hv, bnd_some, if_pos rfl]
      · unfold f_X9_side f_X9_side_46
        rw [getI_ok (ro_K H), Option.bind_some, c7, r_in_ok hl (by omega), bnd_some, if_neg (by decide), ro_g0 H, Option.bind_some, ro_a0 H (by omega), Option.bind_some, h1, r_in_no (by omega) hv, bnd_some, if_pos rfl]
  · refine ⟨-1, h, h, ?_, ?_, Ib⟩
    · unfold f_X8_side f_X8_side_30
      rw [ck_ok X.1, Option.bind_some, c_lawAt_no I hv, bnd_some, if_pos rfl]
    · unfold f_X9_side f_X9_side_46
      rw [getI_ok (ro_K H), Option.bind_some, c7, r_in_no (by omega) hv, bnd_some, if_pos rfl]
