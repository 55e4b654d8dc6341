theorem shr_neg {v : Int32} {n : Nat} (hn : n ≤ 6) (hv : v < 0) : ¬ v >>> (nI n &&& 31) = 0 := by
  intro e
  have e2 : (v >>> (nI n &&& 31)).toBitVec = (0 : Int32).toBitVec := by rw [e]
  rw [Int32.toBitVec_shiftRight] at e2
  have sm : (((nI n &&& 31).toBitVec).smod 32#32).toNat = n := (by decide : ∀ i : Fin 7, (((nI i.1 &&& 31).toBitVec).smod 32#32).toNat = i.1) ⟨n, by omega⟩
  have e3 := congrArg BitVec.toInt e2
  rw [BitVec.sshiftRight'] at e3
  erw [sm] at e3
  rw [BitVec.toInt_sshiftRight, Int.shiftRight_eq_div_pow] at e3
  have hv' : v.toBitVec.toInt < 0 := by
    rw [Int32.lt_iff_toInt_lt] at hv
    exact hv
  have z : (0 : Int32).toBitVec.toInt = 0 := by decide
  rw [z] at e3
  have p : (0 : Int) < ((2 ^ n : Nat) : Int) := by exact_mod_cast Nat.pow_pos (by omega)
  have := Int.ediv_neg_of_neg_of_pos hv' p
  omega
theorem newo_def {γ : Type} (h : Hp) (c : Nat) (f : Nat → Hp → Option γ) : newo h c f = f (hpS h) (alo h (c, 0)) := rfl
theorem gr_alo {D : Nat → Prop} {h : Hp} {kd : Nat × Nat} : Gr D h (alo h kd) := ⟨by rw [hpS_alo]; omega, fun a ha => ⟨by rw [hpK_alo, if_neg (by omega)], fun _ => ⟨by funext j; rw [hpI_alo, if_neg (by omega)], by funext j; rw [hpD_alo, if_neg (by omega)], by funext j; rw [hpR_alo, if_neg (by omega)]⟩⟩⟩
theorem xo_k4 {h : Hp} {c : Nat} (X : XO h c) : hpK h (c + 4) = some (13, 8) := X.2.2.2.2.2.2.2.2.2.1
theorem xo_k5 {h : Hp} {c : Nat} (X : XO h c) : hpK h (c + 5) = some (16, 8) := X.2.2.2.2.2.2.2.2.2.2.1
theorem xo_k6 {h : Hp} {c : Nat} (X : XO h c) : hpK h (c + 6) = some (15, 4) := X.2.2.2.2.2.2.2.2.2.2.2.1
theorem op_law {b : Nat} {h : Hp} {c : Nat} (I0 : INV b h c) (p0 p1 : Int32) : ∃ a h1 h2, f_X8_law c p0 p1 h = some (a, h1) ∧ f_X9_law (c + 66) p0 p1 h1 = some (a, h2) ∧ INV (b + 1) h2 c := by
  have Ib := inv_mono (b' := b + 1) (by omega) I0
  obtain ⟨nl, ns, nr, Lw, nv, nn, Ob, ex, rl, Rc, τ, I⟩ := I0
  have X := I.1.1
  have H := I.1.2.2.2.2.2.2.2
  have hS := xo_S X
  obtain ⟨c1, c2, c3, c4, c5, c6, c7, c8, c9⟩ := I.2.1
  unfold f_X8_law f_X9_law f_X8_law_17 f_X9_law_20
  by_cases z1 : 1 ≤ p0 ∧ p0 ≤ 6
  · obtain ⟨n, hn, rfl⟩ := ni_of3 (n := 7) (x := p0) (by omega) (by
      have := z1.1
      rw [Int32.le_iff_toInt_le] at this ⊢
      have e : (1 : Int32).toInt = 1 := by decide
      have e0 : (0 : Int32).toInt = 0 := by decide
      omega) (by
      have := z1.2
      rw [Int32.le_iff_toInt_le] at this
      rw [Int32.lt_iff_toInt_lt, ni_toInt (by omega)]
      have e : (6 : Int32).toInt = 6 := by decide
      omega)
    have n1 : 1 ≤ n := by have := z1.1; rw [li1, ni_le (by omega) (by omega)] at this; exact this
    have inN : ∀ g : Hp, f_X9_in (nI n) 1 6 g = some (1, g) := fun g => by rw [r_in, if_pos z1]
    rw [if_neg (Int32.not_lt.mpr z1.1), if_neg (Int32.not_lt.mpr z1.2)]
    by_cases z2 : p1 >>> (nI n &&& 31) = 0
    · have z3 : ¬ p1 < 0 := fun z => shr_neg (by omega) z z2
      rw [if_pos z2, getI_ok X.1, Option.bind_some, c4]
      by_cases z4 : nl < 8
      · rw [if_pos (by rw [li8, ni_lt (by omega) (by omega)]; omega)]
        obtain ⟨h0, e0, s0, LO0, f0, f1, f2, f10, f12, RN0, f9, U0⟩ := law_new h (k := c + 1) (sg := c + 5) (n := n) (num := nI nl) (nar := p1) (by omega)
        have q0 : ∀ a, a < hpS h → hpK h0 a = hpK h a ∧ hpI h0 a = hpI h a ∧ hpD h0 a = hpD h a ∧ hpR h0 a = hpR h a := fun a ha => ⟨(U0 a ha).1, (U0 a ha).2.1, (U0 a ha).2.2.1, (U0 a ha).2.2.2 (fun z => z)⟩
        have ga : Gr (fun _ => False) h (alo h (1, 0)) := gr_alo
        have K8 : hpK (alo h (1, 0)) c = some (8, 0) := by rw [(ga.2 c (by omega)).1]; exact X.1
        have i8 := ((ga.2 c (by omega)).2 (fun z => z)).1
        have r8 := ((ga.2 c (by omega)).2 (fun z => z)).2.2
        have g2 : getR h (some c) 8 2 = some (some (c + 4)) := by rw [getR_ok X.1, X.2.2.2.1]
        have K40 : hpK h0 (c + 4) = some (13, 8) := by rw [(q0 _ (by omega)).1]; exact xo_k4 X
        have K80 : hpK h0 c = some (8, 0) := by rw [(q0 _ (by omega)).1]; exact X.1
        have A0 : astR h0 (some (c + 4)) 13 (nI nl) (some (hpS h)) = some (stR h0 (c + 4) nl (some (hpS h))) := by
          rw [astR_ok K40 (ni_in z4 (by omega)) (by show hpK h0 (hpS h) = some (1, 0); exact LO0.1), ni_cl (by omega)]
        have K81 : hpK (stR h0 (c + 4) nl (some (hpS h))) c = some (8, 0) := K80
        have K82 : hpK (stI (stR h0 (c + 4) nl (some (hpS h))) c 3 (nI (nl + 1))) c = some (8, 0) := K80
        have i3a : hpI (stR h0 (c + 4) nl (some (hpS h))) c 3 = nI nl := by show hpI h0 c 3 = _; rw [(q0 c (by omega)).2.1]; exact c4
        rw [g2, Option.bind_some, Option.bind_some, newo_def]
        rw [getI_ok K8, Option.bind_some, i8, c4, getR_ok K8, Option.bind_some, r8, X.2.2.2.2.1, getR_ok K8, Option.bind_some, r8, X.2.1, e0, bnd_some, A0, Option.bind_some, getI_ok K81, Option.bind_some, i3a, putI_ok K81, Option.bind_some, show nI nl + 1 = nI (nl + 1) by rw [li1, ni_add], getI_ok K82, Option.bind_some, hpI_stI_self, show nI (nl + 1) - 1 = nI nl by rw [li1, ni_sub (by omega)]; rfl]
        generalize e1 : stI (stR h0 (c + 4) nl (some (hpS h))) c 3 (nI (nl + 1)) = h1
        have G01 : Gr (fun a => a = c ∨ a = c + 4) h0 h1 := by rw [← e1]; exact (gr_stR (Or.inr rfl)).trans (gr_stI (Or.inl rfl))
        have Gh1 : Gr (fun a => a = c ∨ a = c + 4) h h1 := ((gr_ux U0 (by omega)).mono (fun a _ z => z.elim)).trans G01
        have H1 : RO h1 (c + 66) := gr_ro Gh1 (by omega) ((Gh1.2 _ (by omega)).2 (by omega)).2.2 H
        have m9 : hpI h1 (c + 66) 9 = nI nl := by rw [((Gh1.2 _ (by omega)).2 (by omega)).1]; exact c7
        generalize e2 : stI (stI (stI h1 (c + 66 + 1) nl (nI n)) (c + 66 + 2) nl p1) (c + 66) 9 (nI (nl + 1)) = h2
        have G12 : Gr (fun a => a = c + 66 ∨ a = c + 66 + 1 ∨ a = c + 66 + 2) h1 h2 := by rw [← e2]; exact ((gr_stI (by omega)).trans (gr_stI (by omega))).trans (gr_stI (by omega))
        have keep : ∀ (u : Hp) (a k : Nat) (v : Int32), RO u (c + 66) → RO (stI u a k v) (c + 66) := fun u a k v Hu => ro_fr (fr_stI (P := fun _ => True) (Fr.refl _ _) trivial) Hu
        have H1a := keep h1 (c + 66 + 1) nl (nI n) H1
        have H1b := keep _ (c + 66 + 2) nl p1 H1a
        have H2 : RO h2 (c + 66) := by rw [← e2]; exact keep _ _ _ _ H1b
        refine ⟨nI nl, h1, h2, rfl, ?_, ?_⟩
        · rw [inN, bnd_some, if_neg (by decide), if_neg z3, if_pos z2, getI_ok (ro_K H1), Option.bind_some, m9, if_pos (show ¬ nI nl = 8 by rw [li8, ni_eq (by omega) (by omega)]; omega), ro_g0 H1, Option.bind_some, Option.bind_some, ro_s0 H1 z4, Option.bind_some, ro_g1 H1a, Option.bind_some, getI_ok (ro_K H1a), Option.bind_some, hpI_stI_ne (Or.inl (by omega)), m9, ro_s1 H1a z4, Option.bind_some, getI_ok (ro_K H1b), Option.bind_some, hpI_stI_ne (Or.inl (by omega)), hpI_stI_ne (Or.inl (by omega)), m9, putI_ok (ro_K H1b), Option.bind_some, show nI nl + 1 = nI (nl + 1) by rw [li1, ni_add], e2, getI_ok (ro_K H2), Option.bind_some, ← e2, hpI_stI_self, show nI (nl + 1) - 1 = nI nl by rw [li1, ni_sub (by omega)]; rfl]
        · have DD : ∀ a, (a = c ∨ a = c + 4) ∨ (a = c + 66 ∨ a = c + 66 + 1 ∨ a = c + 66 + 2) → True := fun _ _ => trivial
          have G02 : Gr (fun a => a = c ∨ a = c + 4 ∨ a = c + 66 ∨ a = c + 66 + 1 ∨ a = c + 66 + 2) h0 h2 := (G01.mono (fun a _ z => by omega)).trans (G12.mono (fun a _ z => by omega))
          have G2 : Gr (fun a => a = c ∨ a = c + 4 ∨ a = c + 66 ∨ a = c + 66 + 1 ∨ a = c + 66 + 2) h h2 := (Gh1.mono (fun a _ z => by omega)).trans (G12.mono (fun a _ z => by omega))
          have q2 : ∀ a, a < hpS h → a ≠ c → a ≠ c + 4 → a ≠ c + 66 → a ≠ c + 66 + 1 → a ≠ c + 66 + 2 → hpI h2 a = hpI h a ∧ hpD h2 a = hpD h a ∧ hpR h2 a = hpR h a := fun a ha z1 z2 z3 z4 z5 => (G2.2 a ha).2 (by omega)
          have rR : hpR h2 = hpR (stR h0 (c + 4) nl (some (hpS h))) := by rw [← e2, ← e1]; rfl
          have r4 : hpR h2 (c + 4) = up1 (hpR h (c + 4)) nl (some (hpS h)) := by rw [rR, up_stR, (q0 _ (by omega)).2.2.2]
          have rc : hpR h2 c = hpR h c := by rw [rR, stR_ne (by omega), (q0 _ (by omega)).2.2.2]
          have rm : hpR h2 (c + 66) = hpR h (c + 66) := by rw [rR, stR_ne (by omega), (q0 _ (by omega)).2.2.2]
          have iI : ∀ a j, hpI h2 a j = if a = c + 66 ∧ j = 9 then nI (nl + 1) else if a = c + 66 + 2 ∧ j = nl then p1 else if a = c + 66 + 1 ∧ j = nl then nI n else if a = c ∧ j = 3 then nI (nl + 1) else hpI h0 a j := fun a j => by
            rw [← e2, ← e1, hpI_stI, hpI_stI, hpI_stI, hpI_stI]
            repeat' split
            all_goals (first | rfl | (exfalso; omega) | skip)
            all_goals (try omega)
          have dD : hpD h2 = hpD h0 := by rw [← e2, ← e1]; rfl
          refine ig_bld (D := fun a => a = c ∨ a = c + 4 ∨ a = c + 66 ∨ a = c + 66 + 1 ∨ a = c + 66 + 2) (nl' := nl + 1) (ns' := ns) (Lw' := up1 Lw nl (hpS h)) (nv' := up1 nv nl n) (nn' := up1 nn nl 0) (τ' := fun x => if x < hpS h then τ x else nl) (ig_mono (b' := b + 1) (by omega) I) G2 (fun a _ z => by omega) (fun x hx => if_pos hx) rc rm ?_ ?_ ?_ ?_ ?_ ?_ ⟨by omega, fun l hl => ?_⟩
          · refine ⟨by omega, c2, c3, ?_, ?_, ?_, ?_, ?_, ?_⟩
            · rw [iI, if_neg (by omega), if_neg (by omega), if_neg (by omega), if_pos ⟨rfl, rfl⟩]
            · rw [iI, if_neg (by omega), if_neg (by omega), if_neg (by omega), if_neg (by omega), (q0 _ (by omega)).2.1]; exact c5
            · rw [iI, if_neg (by omega), if_neg (by omega), if_neg (by omega), if_neg (by omega), (q0 _ (by omega)).2.1]; exact c6
            · rw [iI, if_pos ⟨rfl, rfl⟩]
            · rw [iI, if_neg (by omega), if_neg (by omega), if_neg (by omega), if_neg (by omega), (q0 _ (by omega)).2.1]; exact c8
            · rw [iI, if_neg (by omega), if_neg (by omega), if_neg (by omega), if_neg (by omega), (q0 _ (by omega)).2.1]; exact c9
          · intro l hl
            by_cases e : l = nl
            · subst e
              rw [up1_self, up1_self, up1_self]
              obtain ⟨u3, u4, u9⟩ := I.2.2.2.1 l (Nat.le_refl _) z4
              have sB : ∀ o, o < 10 → hpI h2 (hpS h + o) = hpI h0 (hpS h + o) := fun o ho => ((G02.2 _ (by omega)).2 (by omega)).1
              have sB0 : hpI h2 (hpS h) = hpI h0 (hpS h) := sB 0 (by omega)
              have m3 : hpI h2 (c + 66 + 3) = hpI h (c + 66 + 3) := (q2 _ (by omega) (by omega) (by omega) (by omega) (by omega) (by omega)).1
              have m4 : hpI h2 (c + 66 + 4) = hpI h (c + 66 + 4) := (q2 _ (by omega) (by omega) (by omega) (by omega) (by omega) (by omega)).1
              have m9' : hpD h2 (c + 66 + 9) = hpD h (c + 66 + 9) := (q2 _ (by omega) (by omega) (by omega) (by omega) (by omega) (by omega)).2.1
              refine ⟨by rw [r4, up1_self], gr_lo G02 (by omega) (by omega) (by omega) LO0, ⟨z4, by omega, n1, by omega, ?_, by rw [m3, u3]; rfl, fun q hq => by omega⟩, ⟨by rw [sB0]; exact f0, by rw [sB0]; exact f1, ?_, by rw [sB0, f10]; rfl, fun q hq => by omega, fun i hi => by rw [sB 9 (by omega), m4, u4 i (by omega)]; exact f9 i hi⟩, gr_rn G02 (by omega) (by omega) (by omega) RN0, ⟨fun i hi => Or.inl (by rw [m4]; exact u4 i (by omega)), fun q _ hq => by rw [m9']; exact u9 q hq⟩, 0, by rw [sB0, f12]; rfl, by omega, fun i hi q hq => by omega⟩
              · rw [iI, if_neg (by omega), if_neg (by omega), if_pos ⟨rfl, rfl⟩]
              · rw [sB0, f2, iI, if_neg (by omega), if_pos ⟨rfl, rfl⟩]
            · rw [up1_ne e, up1_ne e, up1_ne e]
              have bl := I.2.2.2.2.2.2.2.2.2.2.1 l (by omega)
              have bl1 := bl.1
              refine mel_li G2 ⟨fun o h1 h2 => ?_, fun i hi => by rw [(q2 _ (by omega) (by omega) (by omega) (by omega) (by omega) (by omega)).1], fun q hq => ⟨fun o h1 h2 => by rw [(q2 _ (by omega) (by omega) (by omega) (by omega) (by omega) (by omega)).1], by rw [(q2 _ (by omega) (by omega) (by omega) (by omega) (by omega) (by omega)).2.1]⟩⟩ (Nat.le_refl _) bl.2.1 (fun a h1 h2 z => by omega) (by rw [r4, up1_ne e]) (I.2.2.1 l (by omega))
              rw [iI, if_neg (by omega), if_neg (by omega), if_neg (by omega), if_neg (by omega), (q0 _ (by omega)).2.1]
          · intro l h1' h2'
            rw [(q2 (c + 66 + 3) (by omega) (by omega) (by omega) (by omega) (by omega) (by omega)).1, (q2 (c + 66 + 4) (by omega) (by omega) (by omega) (by omega) (by omega) (by omega)).1, (q2 (c + 66 + 9) (by omega) (by omega) (by omega) (by omega) (by omega) (by omega)).2.1]
            exact I.2.2.2.1 l (by omega) h2'
          · exact is_same G2 hS (fun o h1 h2 => ⟨(q2 _ (by omega) (by omega) (by omega) (by omega) (by omega) (by omega)).1, (q2 _ (by omega) (by omega) (by omega) (by omega) (by omega) (by omega)).2.1⟩) (q2 _ (by omega) (by omega) (by omega) (by omega) (by omega) (by omega)).2.2 I.2.2.2.2.2.2.2.2.2.2.2.1 (fun s hs S hS2 a h1 h2 z => by have := (I.2.2.2.2.2.2.2.2.2.2.2.1 s hs S hS2).1; omega) I.2.2.2.2.1
          · intro l hl
            by_cases e : l = nl
            · subst e
              rw [up1_self]
              exact ⟨hS, by have := G02.1; omega, fun x h1 h2 => if_neg (by omega)⟩
            · rw [up1_ne e]
              exact gr_bk G2 (fun x hx => if_pos hx) (I.2.2.2.2.2.2.2.2.2.2.1 l (by omega))
          · intro s hs S hS2
            rw [(q2 (c + 5) (by omega) (by omega) (by omega) (by omega) (by omega) (by omega)).2.2] at hS2
            exact gr_bk G2 (fun x hx => if_pos hx) (I.2.2.2.2.2.2.2.2.2.2.2.1 s hs S hS2)
          · rw [up1_ne (by omega), up1_ne (by omega), up1_ne (by omega)]
            refine ⟨rfl, rfl, Nat.le_refl _, fun z => ?_⟩
            unfold SdOK
            rw [(q2 (c + 66 + 4) (by omega) (by omega) (by omega) (by omega) (by omega) (by omega)).1]; exact z
      · rw [if_neg (by rw [li8, ni_lt (by omega) (by omega)]; omega)]
        refine ⟨_, h, h, rfl, ?_, Ib⟩
        rw [inN, bnd_some, if_neg (by decide), if_neg z3, if_pos z2, getI_ok (ro_K H), Option.bind_some, c7, if_neg (show ¬ ¬ nI nl = 8 by rw [li8, ni_eq (by omega) (by omega)]; omega)]
    · rw [if_neg z2]
      refine ⟨_, h, h, rfl, ?_, Ib⟩
      rw [inN, bnd_some, if_neg (by decide), if_neg z2]
      split <;> rfl
  · refine ⟨-1, h, h, ?_, ?_, Ib⟩
    · by_cases q : p0 < 1
      · rw [if_pos q]
      · rw [if_neg q, if_pos (Int32.not_le.mp (fun w => z1 ⟨Int32.not_lt.mp q, w⟩))]
    · rw [r_in, if_neg z1, bnd_some, if_pos rfl]
