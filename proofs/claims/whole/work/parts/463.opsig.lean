theorem op_signal {b : Nat} {h : Hp} {c : Nat} (I0 : INV b h c) (p0 : Int32) : ∃ a h1 h2, f_X8_signal c p0 h = some (a, h1) ∧ f_X9_signal (c + 66) p0 h1 = some (a, h2) ∧ INV (b + 1) h2 c := by
  have Ib := inv_mono (b' := b + 1) (by omega) I0
  obtain ⟨nl, ns, nr, Lw, nv, nn, Ob, ex, rl, Rc, τ, I⟩ := I0
  have X := I.1.1
  have H := I.1.2.2.2.2.2.2.2
  have hS := xo_S X
  obtain ⟨c1, c2, c3, c4, c5, c6, c7, c8, c9⟩ := I.2.1
  unfold f_X8_signal f_X9_signal f_X8_signal_9
  by_cases z1 : 0 ≤ p0 ∧ p0 ≤ 1
  · have hw : p0 = 0 ∨ p0 = 1 := by
      obtain ⟨u1, u2⟩ := z1
      rw [Int32.le_iff_toInt_le] at u1 u2
      have e0 : (0 : Int32).toInt = 0 := by decide
      have e1 : (1 : Int32).toInt = 1 := by decide
      rcases (by omega : p0.toInt = 0 ∨ p0.toInt = 1) with z | z
      · exact Or.inl (Int32.toInt.inj (by rw [z, e0]))
      · exact Or.inr (Int32.toInt.inj (by rw [z, e1]))
    have inN : ∀ g : Hp, f_X9_in p0 0 1 g = some (1, g) := fun g => by rw [r_in, if_pos z1]
    rw [if_neg (Int32.not_lt.mpr z1.1), if_pos z1.2, getI_ok X.1, Option.bind_some, c5]
    by_cases z4 : ns < 8
    · rw [if_pos (by rw [li8, ni_lt (by omega) (by omega)]; omega)]
      obtain ⟨h0, e0, s0, SO0, f0, f3, U0⟩ := signal_new h hw
      have q0 : ∀ a, a < hpS h → hpK h0 a = hpK h a ∧ hpI h0 a = hpI h a ∧ hpD h0 a = hpD h a ∧ hpR h0 a = hpR h a := fun a ha => ⟨(U0 a ha).1, (U0 a ha).2.1, (U0 a ha).2.2.1, (U0 a ha).2.2.2 (fun z => z)⟩
      have g4 : getR h (some c) 8 4 = some (some (c + 5)) := by rw [getR_ok X.1, X.2.2.2.2.1]
      have K50 : hpK h0 (c + 5) = some (16, 8) := by rw [(q0 _ (by omega)).1]; exact xo_k5 X
      have K80 : hpK h0 c = some (8, 0) := by rw [(q0 _ (by omega)).1]; exact X.1
      have A0 : astR h0 (some (c + 5)) 16 (nI ns) (some (hpS h)) = some (stR h0 (c + 5) ns (some (hpS h))) := by
        rw [astR_ok K50 (ni_in z4 (by omega)) (by show hpK h0 (hpS h) = some (5, 0); exact SO0.1), ni_cl (by omega)]
      have K81 : hpK (stR h0 (c + 5) ns (some (hpS h))) c = some (8, 0) := K80
      have K82 : hpK (stI (stR h0 (c + 5) ns (some (hpS h))) c 5 (nI (ns + 1))) c = some (8, 0) := K80
      have i3a : hpI (stR h0 (c + 5) ns (some (hpS h))) c 5 = nI ns := by show hpI h0 c 5 = _; rw [(q0 c (by omega)).2.1]; exact c5
      have ckq : ab_ck (alo h (5, 0)) (some (hpS h)) (5, 0) = some (hpS h) := ck_ok (by rw [hpK_alo, if_pos rfl])
      have cl45 : ∀ how : Int32, how = p0 → f_X8_signal_45 (some c) how (some (hpS h)) (some (hpS h)) (nI ns) (some (c + 5)) (alo h (5, 0)) = some (nI ns, stI (stR h0 (c + 5) ns (some (hpS h))) c 5 (nI (ns + 1))) := fun how e => by
        subst e
        unfold f_X8_signal_45
        rw [ckq, Option.bind_some, e0, bnd_some, A0, Option.bind_some, getI_ok K81, Option.bind_some, i3a, putI_ok K81, Option.bind_some, show nI ns + 1 = nI (ns + 1) by rw [li1, ni_add], getI_ok K82, Option.bind_some, hpI_stI_self, show nI (ns + 1) - 1 = nI ns by rw [li1, ni_sub (by omega)]; rfl]
      rw [g4, Option.bind_some, Option.bind_some, newo_def]
      rw [show (if ¬ p0 = 1 then f_X8_signal_45 (some c) 0 (some (hpS h)) (some (hpS h)) (nI ns) (some (c + 5)) (alo h (5, 0)) else f_X8_signal_45 (some c) 1 (some (hpS h)) (some (hpS h)) (nI ns) (some (c + 5)) (alo h (5, 0))) = some (nI ns, stI (stR h0 (c + 5) ns (some (hpS h))) c 5 (nI (ns + 1))) by
        rcases hw with w | w
        · rw [if_pos (by rw [w]; decide), cl45 0 w.symm]
        · rw [if_neg (fun z => z w), cl45 1 w.symm]]
      generalize e1 : stI (stR h0 (c + 5) ns (some (hpS h))) c 5 (nI (ns + 1)) = h1
      have G01 : Gr (fun a => a = c ∨ a = c + 5) h0 h1 := by rw [← e1]; exact (gr_stR (Or.inr rfl)).trans (gr_stI (Or.inl rfl))
      have Gh1 : Gr (fun a => a = c ∨ a = c + 5) h h1 := ((gr_ux U0 (by omega)).mono (fun a _ z => z.elim)).trans G01
      have H1 : RO h1 (c + 66) := gr_ro Gh1 (by omega) ((Gh1.2 _ (by omega)).2 (by omega)).2.2 H
      have m9 : hpI h1 (c + 66) 14 = nI ns := by rw [((Gh1.2 _ (by omega)).2 (by omega)).1]; exact c8
      generalize e2 : stI (stI h1 (c + 66 + 10) ns p0) (c + 66) 14 (nI (ns + 1)) = h2
      have G12 : Gr (fun a => a = c + 66 ∨ a = c + 66 + 10) h1 h2 := by rw [← e2]; exact (gr_stI (by omega)).trans (gr_stI (by omega))
      have keep : ∀ (u : Hp) (a k : Nat) (v : Int32), RO u (c + 66) → RO (stI u a k v) (c + 66) := fun u a k v Hu => ro_fr (fr_stI (P := fun _ => True) (Fr.refl _ _) trivial) Hu
      have H1a := keep h1 (c + 66 + 10) ns p0 H1
      have H2 : RO h2 (c + 66) := by rw [← e2]; exact keep _ _ _ _ H1a
      refine ⟨nI ns, h1, h2, rfl, ?_, ?_⟩
      · rw [inN, bnd_some, if_pos (by decide), getI_ok (ro_K H1), Option.bind_some, m9, if_pos (show ¬ nI ns = 8 by rw [li8, ni_eq (by omega) (by omega)]; omega), ro_g10 H1, Option.bind_some, Option.bind_some, ro_s10 H1 z4, Option.bind_some, getI_ok (ro_K H1a), Option.bind_some, hpI_stI_ne (Or.inl (by omega)), m9, putI_ok (ro_K H1a), Option.bind_some, show nI ns + 1 = nI (ns + 1) by rw [li1, ni_add], e2, getI_ok (ro_K H2), Option.bind_some, ← e2, hpI_stI_self, show nI (ns + 1) - 1 = nI ns by rw [li1, ni_sub (by omega)]; rfl]
      · have G02 : Gr (fun a => a = c ∨ a = c + 5 ∨ a = c + 66 ∨ a = c + 66 + 10) h0 h2 := (G01.mono (fun a _ z => by omega)).trans (G12.mono (fun a _ z => by omega))
        have G2 : Gr (fun a => a = c ∨ a = c + 5 ∨ a = c + 66 ∨ a = c + 66 + 10) h h2 := (Gh1.mono (fun a _ z => by omega)).trans (G12.mono (fun a _ z => by omega))
        have q2 : ∀ a, a < hpS h → a ≠ c → a ≠ c + 5 → a ≠ c + 66 → a ≠ c + 66 + 10 → hpI h2 a = hpI h a ∧ hpD h2 a = hpD h a ∧ hpR h2 a = hpR h a := fun a ha z1 z2 z3 z4 => (G2.2 a ha).2 (by omega)
        have rR : hpR h2 = hpR (stR h0 (c + 5) ns (some (hpS h))) := by rw [← e2, ← e1]; rfl
        have r5 : hpR h2 (c + 5) = up1 (hpR h (c + 5)) ns (some (hpS h)) := by rw [rR, up_stR, (q0 _ (by omega)).2.2.2]
        have rc : hpR h2 c = hpR h c := by rw [rR, stR_ne (by omega), (q0 _ (by omega)).2.2.2]
        have rm : hpR h2 (c + 66) = hpR h (c + 66) := by rw [rR, stR_ne (by omega), (q0 _ (by omega)).2.2.2]
        have iM : ∀ j, hpI h2 (c + 66) j = if j = 14 then nI (ns + 1) else hpI h (c + 66) j := fun j => by
          rw [← e2, hpI_stI, if_pos rfl, hpI_stI_ne (Or.inl (by omega)), ((Gh1.2 _ (by omega)).2 (by omega)).1]
        have iC : ∀ j, hpI h2 c j = if j = 5 then nI (ns + 1) else hpI h c j := fun j => by
          rw [← e2, hpI_stI_ne (Or.inl (by omega)), hpI_stI_ne (Or.inl (by omega)), ← e1, hpI_stI, if_pos rfl]
          show (if j = 5 then _ else hpI h0 c j) = _
          rw [(q0 c (by omega)).2.1]
        have i10 : ∀ j, hpI h2 (c + 66 + 10) j = if j = ns then p0 else hpI h (c + 66 + 10) j := fun j => by
          rw [← e2, hpI_stI_ne (Or.inl (by omega)), hpI_stI, if_pos rfl, ((Gh1.2 _ (by omega)).2 (by omega)).1]
        have m11 : hpI h2 (c + 66 + 11) = hpI h (c + 66 + 11) := (q2 _ (by omega) (by omega) (by omega) (by omega) (by omega)).1
        have m12 : hpD h2 (c + 66 + 12) = hpD h (c + 66 + 12) := (q2 _ (by omega) (by omega) (by omega) (by omega) (by omega)).2.1
        have m13 : hpD h2 (c + 66 + 13) = hpD h (c + 66 + 13) := (q2 _ (by omega) (by omega) (by omega) (by omega) (by omega)).2.1
        obtain ⟨j1, j2, j3, j4⟩ := I.2.2.2.2.1
        have z11 : hpI h (c + 66 + 11) ns = 0 := j4 ns (Nat.le_refl _) z4
        refine ig_bld (D := fun a => a = c ∨ a = c + 5 ∨ a = c + 66 ∨ a = c + 66 + 10) (nl' := nl) (ns' := ns + 1) (Lw' := Lw) (nv' := nv) (nn' := nn) (τ' := fun x => if x < hpS h then τ x else 8 + ns) (ig_mono (b' := b + 1) (by omega) I) G2 (fun a _ z => by omega) (fun x hx => if_pos hx) rc rm ?_ ?_ ?_ ?_ ?_ ?_ ⟨by omega, fun l hl => ?_⟩
        · refine ⟨c1, by omega, c3, ?_, ?_, ?_, ?_, ?_, ?_⟩
          · rw [iC, if_neg (by omega)]; exact c4
          · rw [iC, if_pos rfl]
          · rw [iC, if_neg (by omega)]; exact c6
          · rw [iM, if_neg (by omega)]; exact c7
          · rw [iM, if_pos rfl]
          · rw [iM, if_neg (by omega)]; exact c9
        · intro l hl
          have bl := I.2.2.2.2.2.2.2.2.2.2.1 l (by omega)
          have bl1 := bl.1
          exact mel_li G2 (mel_me (fun o h1 h2 => ⟨(q2 _ (by omega) (by omega) (by omega) (by omega) (by omega)).1, (q2 _ (by omega) (by omega) (by omega) (by omega) (by omega)).2.1⟩)) (by omega) bl.2.1 (fun a h1 h2 z => by omega) (by rw [(q2 (c + 4) (by omega) (by omega) (by omega) (by omega) (by omega)).2.2]) (I.2.2.1 l hl)
        · intro l h1' h2'
          rw [(q2 (c + 66 + 3) (by omega) (by omega) (by omega) (by omega) (by omega)).1, (q2 (c + 66 + 4) (by omega) (by omega) (by omega) (by omega) (by omega)).1, (q2 (c + 66 + 9) (by omega) (by omega) (by omega) (by omega) (by omega)).2.1]
          exact I.2.2.2.1 l h1' h2'
        · refine ⟨⟨by omega, fun s hs => ?_⟩, ?_, ⟨by rw [(G2.2 _ (by omega)).1]; exact j3.1, fun s hs => ?_⟩, fun s h1 h2 => by rw [m11]; exact j4 s (by omega) h2⟩
          · rw [m11, m12]
            by_cases e : s = ns
            · subst e; exact ⟨0, by omega, by rw [z11]; rfl, fun j hj => by omega⟩
            · exact j1.2 s (by omega)
          · unfold SvOK; rw [m13]; exact j2
          · by_cases e : s = ns
            · subst e
              have sB0 : hpI h2 (hpS h) = hpI h0 (hpS h) := ((G02.2 _ (by omega)).2 (by omega)).1
              refine ⟨hpS h, 0, by rw [r5, up1_self], gr_so G02 (by omega) (by omega) SO0, by omega, by rw [sB0, f3]; rfl, by rw [m11, z11]; rfl, by rw [sB0, f0, i10, if_pos rfl], fun j hj => by omega, fun j hj => by omega, fun j hj => by omega⟩
            · obtain ⟨S, p, s1, s2, s3, s4, s5, s6, s7, s8⟩ := j3.2 s (by omega)
              have bS := I.2.2.2.2.2.2.2.2.2.2.2.1 s (by omega) S s1
              have bS1 := bS.1
              have bS2 := bS.2.1
              have f : ∀ o, o < 3 → hpI h2 (S + o) = hpI h (S + o) ∧ hpD h2 (S + o) = hpD h (S + o) := fun o ho => ⟨(q2 _ (by omega) (by omega) (by omega) (by omega) (by omega)).1, (q2 _ (by omega) (by omega) (by omega) (by omega) (by omega)).2.1⟩
              have ff : hpI h2 S = hpI h S := (f 0 (by omega)).1
              refine ⟨S, p, by rw [r5, up1_ne e]; exact s1, gr_so G2 bS2 (by omega) s2, s3, ?_⟩
              rw [ff, (f 1 (by omega)).2, (f 2 (by omega)).2, i10, if_neg e, m11, m12, m13]
              exact ⟨s4, s5, s6, s7, s8⟩
        · intro l hl
          exact gr_bk G2 (fun x hx => if_pos hx) (I.2.2.2.2.2.2.2.2.2.2.1 l hl)
        · intro s hs S hS2
          rw [r5] at hS2
          by_cases e : s = ns
          · subst e
            rw [up1_self] at hS2
            have eS := Option.some.inj hS2
            subst eS
            exact ⟨hS, by have := G02.1; omega, fun x h1 h2 => if_neg (by omega)⟩
          · rw [up1_ne e] at hS2
            exact gr_bk G2 (fun x hx => if_pos hx) (I.2.2.2.2.2.2.2.2.2.2.2.1 s (by omega) S hS2)
        · refine ⟨rfl, rfl, Nat.le_refl _, fun z => ?_⟩
          unfold SdOK
          rw [(q2 (c + 66 + 4) (by omega) (by omega) (by omega) (by omega) (by omega)).1]; exact z
    · rw [if_neg (by rw [li8, ni_lt (by omega) (by omega)]; omega)]
      refine ⟨_, h, h, rfl, ?_, Ib⟩
      rw [inN, bnd_some, if_pos (by decide), getI_ok (ro_K H), Option.bind_some, c8, if_neg (show ¬ ¬ nI ns = 8 by rw [li8, ni_eq (by omega) (by omega)]; omega)]
  · refine ⟨-1, h, h, ?_, ?_, Ib⟩
    · by_cases q : p0 < 0
      · rw [if_pos q]
      · rw [if_neg q, if_neg (fun w => z1 ⟨Int32.not_lt.mp q, w⟩)]
    · rw [r_in, if_neg z1, bnd_some, if_neg (by decide)]
