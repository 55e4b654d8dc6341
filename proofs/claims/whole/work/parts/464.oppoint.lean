def Bq (x : UInt64) : Prop := (ky x).natAbs < 1089 * 2 ^ 52
theorem c_sigadd {h : Hp} {S p : Nat} {x y : UInt64} (s2 : SO h S) (s4 : hpI h S 3 = nI p) (hp : p ≤ 16) : f_X5_add_26 (some S) x y h = if p < 16 then some (nI p, stI (stD (stD h (S + 1) p x) (S + 2) p y) S 3 (nI (p + 1))) else some (-3, h) := by
  unfold f_X5_add_26
  rw [getI_ok s2.1, Option.bind_some, s4]
  by_cases z3 : p < 16
  · have K1 : hpK h (S + 1) = some (10, 16) := s2.2.2.2.1
    have K2 : hpK h (S + 2) = some (10, 16) := s2.2.2.2.2
    have a1 : astD h (some (S + 1)) (nI p) x = some (stD h (S + 1) p x) := by rw [astD_ok K1 (ni_in z3 (by omega)), ni_cl (by omega)]
    have a2 : astD (stD h (S + 1) p x) (some (S + 2)) (nI p) y = some (stD (stD h (S + 1) p x) (S + 2) p y) := by rw [astD_ok (h := stD h (S + 1) p x) K2 (ni_in z3 (by omega)), ni_cl (by omega)]
    have so1 : SO (stD h (S + 1) p x) S := s2
    have so2 : SO (stD (stD h (S + 1) p x) (S + 2) p y) S := s2
    have so3 : SO (stI (stD (stD h (S + 1) p x) (S + 2) p y) S 3 (nI (p + 1))) S := s2
    have rs1 : getR h (some S) 5 1 = some (some (S + 1)) := by rw [getR_ok s2.1, s2.2.1]
    rw [if_pos z3, if_pos (by rw [li16, ni_lt (by omega) (by omega)]; exact z3), rs1, Option.bind_some, Option.bind_some, a1, Option.bind_some, getR_ok so1.1, Option.bind_some, so1.2.2.1, getI_ok so1.1, Option.bind_some, hpI_stD, s4, a2, Option.bind_some, getI_ok so2.1, Option.bind_some, hpI_stD, hpI_stD, s4, putI_ok so2.1, Option.bind_some, show nI p + 1 = nI (p + 1) by rw [li1, ni_add], getI_ok so3.1, Option.bind_some, hpI_stI_self, show nI (p + 1) - 1 = nI p by rw [li1, ni_sub (by omega)]; rfl]
  · rw [if_neg z3, if_neg (by rw [li16, ni_lt (by omega) (by omega)]; exact z3)]
theorem r_point {g : Hp} {m s k p ns : Nat} {p1 p2 : Int64} (Hg : RO g m) (h14 : hpI g m 14 = nI ns) (hs : s < ns) (hns : ns ≤ 8) (h11 : hpI g (m + 11) s = nI p) (hp : p ≤ 16) (hk : k ≤ 30) : f_X9_point m (nI s) p1 p2 (nI k) g = if p = 0 ∨ 0 < cg (qV p1 (nI k)) (hpD g (m + 12) (16 * s + (p - 1))) then (if p < 16 then some (nI p, stI (stD (stD g (m + 12) (16 * s + p) (qV p1 (nI k))) (m + 13) (16 * s + p) (qV p2 (nI k))) (m + 11) s (nI (p + 1))) else some (-3, g)) else some (-2, g) := by
  have num1 : ∀ u : Hp, f_X9_number p1 (nI k) u = some (qV p1 (nI k), u) := fun u => (c_quo hk u).2
  have num2 : ∀ u : Hp, f_X9_number p2 (nI k) u = some (qV p2 (nI k), u) := fun u => (c_quo hk u).2
  generalize qV p1 (nI k) = x at num1
  generalize qV p2 (nI k) = y at num2
  have tl : f_X9_point_71 (some m) (nI s) p2 (nI k) (nI p) x g = (if p < 16 then some (nI p, stI (stD (stD g (m + 12) (16 * s + p) x) (m + 13) (16 * s + p) y) (m + 11) s (nI (p + 1))) else some (-3, g)) := by
    unfold f_X9_point_71
    by_cases z3 : p < 16
    · have H1a : RO (stD g (m + 12) (16 * s + p) x) m := Hg
      have H1b : RO (stD (stD g (m + 12) (16 * s + p) x) (m + 13) (16 * s + p) y) m := Hg
      rw [if_pos z3, if_pos (show ¬ nI p = 16 by rw [li16, ni_eq (by omega) (by omega)]; omega), ro_g12 Hg, Option.bind_some, show (16 : Int32) * nI s + nI p = nI (16 * s + p) by rw [li16, ni_mul, ni_add], ro_s12 Hg (by omega), Option.bind_some, ro_g13 H1a, Option.bind_some, num2, bnd_some, ro_s13 H1a (by omega), Option.bind_some, ro_g11 H1b, Option.bind_some, ro_a11 H1b (by omega), Option.bind_some, hpI_stD, hpI_stD, h11, ro_s11 H1b (by omega), Option.bind_some, show nI p + 1 = nI (p + 1) by rw [li1, ni_add]]
    · rw [if_neg z3, if_neg (show ¬ ¬ nI p = 16 by rw [li16, ni_eq (by omega) (by omega)]; omega)]
  unfold f_X9_point
  rw [getI_ok (ro_K Hg), Option.bind_some, h14, r_in_ok hs (by omega), bnd_some, if_neg (by decide), (isK_ok hk g).2, bnd_some, if_pos (by decide), ro_g11 Hg, Option.bind_some, ro_a11 Hg (by omega), Option.bind_some, h11, num1, bnd_some]
  by_cases w : p = 0
  · rw [if_pos (Or.inl w), if_pos (by rw [li0, ni_le (by omega) (by omega)]; omega), tl]
  · rw [if_neg (by rw [li0, ni_le (by omega) (by omega)]; omega), ro_g12 Hg, Option.bind_some, show (16 : Int32) * nI s + nI p - 1 = nI (16 * s + (p - 1)) by rw [li16, li1, ni_mul, ni_add, ni_sub (by omega)]; congr 1; omega, ro_a12 Hg (by omega), Option.bind_some]
    by_cases w2 : 0 < cg x (hpD g (m + 12) (16 * s + (p - 1)))
    · rw [if_pos w2, if_pos (Or.inr w2), tl]
    · rw [if_neg w2, if_neg (fun z => z.elim w w2)]
theorem c_point {h : Hp} {c s k p S ns : Nat} {p1 p2 : Int64} {z : UInt64} (X : XO h c) (c5 : hpI h c 5 = nI ns) (hs : s < ns) (hns : ns ≤ 8) (s1 : hpR h (c + 5) s = some S) (s2 : SO h S) (s4 : hpI h S 3 = nI p) (hp : p ≤ 16) (hk : k ≤ 30) (s7 : 0 < p → hpD h (S + 1) (p - 1) = z) : f_X8_point c (nI s) p1 p2 (nI k) h = if p = 0 ∨ 0 < cg (qV p1 (nI k)) z then (if p < 16 then some (nI p, stI (stD (stD h (S + 1) p (qV p1 (nI k))) (S + 2) p (qV p2 (nI k))) S 3 (nI (p + 1))) else some (-3, h)) else some (-2, h) := by
  have num1 : ∀ u : Hp, f_X8_quotient p1 (nI k) u = some (qV p1 (nI k), u) := fun u => (c_quo hk u).1
  have num2 : ∀ u : Hp, f_X8_quotient p2 (nI k) u = some (qV p2 (nI k), u) := fun u => (c_quo hk u).1
  generalize qV p1 (nI k) = x at num1
  generalize qV p2 (nI k) = y at num2
  have g4 : getR h (some c) 8 4 = some (some (c + 5)) := by rw [getR_ok X.1, X.2.2.2.2.1]
  have rs1 : getR h (some S) 5 1 = some (some (S + 1)) := by rw [getR_ok s2.1, s2.2.1]
  have cl : f_X5_add S x y h = if p = 0 ∨ 0 < cg x z then (if p < 16 then some (nI p, stI (stD (stD h (S + 1) p x) (S + 2) p y) S 3 (nI (p + 1))) else some (-3, h)) else some (-2, h) := by
    unfold f_X5_add
    rw [getI_ok s2.1, Option.bind_some, s4]
    by_cases w : p = 0
    · rw [if_pos (Or.inl w), if_pos (by rw [li0, ni_le (by omega) (by omega)]; omega), c_sigadd s2 s4 hp]
    · rw [if_neg (by rw [li0, ni_le (by omega) (by omega)]; omega), rs1, Option.bind_some, Option.bind_some, show nI p - 1 = nI (p - 1) by rw [li1, ni_sub (by omega)], aldD_ok s2.2.2.2.1 (ni_in (show p - 1 < 16 by omega) (by omega)), ni_cl (by omega), Option.bind_some, s7 (by omega)]
      by_cases w2 : 0 < cg x z
      · rw [if_pos (show p = 0 ∨ 0 < cg x z from Or.inr w2), ← c_sigadd s2 s4 hp]; exact if_pos w2
      · rw [if_neg (show ¬ (p = 0 ∨ 0 < cg x z) from fun z => z.elim w w2)]; exact if_neg w2
  unfold f_X8_point f_X8_point_57
  rw [if_neg (by rw [li0, ni_lt (by omega) (by omega)]; omega), getI_ok X.1, Option.bind_some, c5, if_neg (by rw [ni_le (by omega) (by omega)]; omega), (isK_ok hk h).1, bnd_some, if_pos (by decide), g4, Option.bind_some, aldR_ok (xo_k5 X) (ni_in (show s < 8 by omega) (by omega)), ni_cl (by omega), Option.bind_some, s1, if_pos (by simp), num1, bnd_some, num2, bnd_some, ck_ok s2.1, Option.bind_some, cl]
  by_cases w : p = 0 ∨ 0 < cg x z
  · rw [if_pos w]
    by_cases z3 : p < 16
    · rw [if_pos z3, bnd_some]
    · rw [if_neg z3, bnd_some]
  · rw [if_neg w, bnd_some]
theorem op_point {b : Nat} {h : Hp} {c : Nat} (I0 : INV b h c) (p0 : Int32) (p1 p2 : Int64) (p3 : Int32) : ∃ a h1 h2, f_X8_point c p0 p1 p2 p3 h = some (a, h1) ∧ f_X9_point (c + 66) p0 p1 p2 p3 h1 = some (a, h2) ∧ INV (b + 1) h2 c := by
  have Ib := inv_mono (b' := b + 1) (by omega) I0
  obtain ⟨nl, ns, nr, Lw, nv, nn, Ob, ex, rl, Rc, τ, I⟩ := I0
  have X := I.1.1
  have H := I.1.2.2.2.2.2.2.2
  have hS := xo_S X
  obtain ⟨c1, c2, c3, c4, c5, c6, c7, c8, c9⟩ := I.2.1
  rcases in_cases p0 (N := ns) (by omega) with ⟨s, hs, rfl⟩ | hv
  · rcases k_cases p3 with ⟨k, hk, rfl⟩ | hv
    · obtain ⟨j1, j2, j3, j4⟩ := I.2.2.2.2.1
      obtain ⟨S, p, s1, s2, s3, s4, s5, s6, s7, s8⟩ := j3.2 s hs
      have bS := I.2.2.2.2.2.2.2.2.2.2.2.1 s hs S s1
      have bS1 := bS.1
      have bS2 := bS.2.1
      have nx : Nm (qV p1 (nI k)) := (qV_fn (p := p1) hk).nm
      have ny : Nm (qV p2 (nI k)) := (qV_fn (p := p2) hk).nm
      have bx : Bq (qV p1 (nI k)) := (qV_b (p := p1) hk).1
      have by' : Bq (qV p2 (nI k)) := (qV_b (p := p2) hk).1
      have ec := c_point (p1 := p1) (p2 := p2) X c5 hs c2 s1 s2 s4 s3 hk (fun z => (s7 (p - 1) (by omega)).1)
      have er := fun (g : Hp) (Hg : RO g (c + 66)) h14 h11 => r_point (p1 := p1) (p2 := p2) (p := p) Hg h14 hs c2 h11 s3 hk
      rw [ec]
      generalize qV p1 (nI k) = x at nx bx er ⊢
      generalize qV p2 (nI k) = y at ny by' er ⊢
      clear ec
      by_cases w : p = 0 ∨ 0 < cg x (hpD h (c + 66 + 12) (16 * s + (p - 1)))
      · rw [if_pos w]
        by_cases z3 : p < 16
        · rw [if_pos z3]
          generalize e1 : stI (stD (stD h (S + 1) p x) (S + 2) p y) S 3 (nI (p + 1)) = h1
          have G1 : Gr (fun a => S ≤ a ∧ a < S + 3) h h1 := by rw [← e1]; exact ((gr_stD (by omega)).trans (gr_stD (by omega))).trans (gr_stI (by omega))
          have H1 : RO h1 (c + 66) := gr_ro G1 (by omega) ((G1.2 _ (by omega)).2 (by omega)).2.2 H
          have m14 : hpI h1 (c + 66) 14 = nI ns := by rw [((G1.2 _ (by omega)).2 (by omega)).1]; exact c8
          have m11 : hpI h1 (c + 66 + 11) s = nI p := by rw [((G1.2 _ (by omega)).2 (by omega)).1]; exact s5
          have er1 := er h1 H1 m14 m11
          rw [((G1.2 (c + 66 + 12) (by omega)).2 (by omega)).2.1, if_pos w, if_pos z3] at er1
          clear er
          generalize e2 : stI (stD (stD h1 (c + 66 + 12) (16 * s + p) x) (c + 66 + 13) (16 * s + p) y) (c + 66 + 11) s (nI (p + 1)) = h2 at er1
          have G12 : Gr (fun a => a = c + 66 + 11 ∨ a = c + 66 + 12 ∨ a = c + 66 + 13) h1 h2 := by rw [← e2]; exact ((gr_stD (by omega)).trans (gr_stD (by omega))).trans (gr_stI (by omega))
          refine ⟨nI p, h1, h2, rfl, er1, ?_⟩
          clear er1
          have G2 : Gr (fun a => (S ≤ a ∧ a < S + 3) ∨ a = c + 66 + 11 ∨ a = c + 66 + 12 ∨ a = c + 66 + 13) h h2 := (G1.mono (fun a _ z => Or.inl z)).trans (G12.mono (fun a _ z => Or.inr z))
          have q2 : ∀ a, a < hpS h → ¬ (S ≤ a ∧ a < S + 3) → a ≠ c + 66 + 11 → a ≠ c + 66 + 12 → a ≠ c + 66 + 13 → hpI h2 a = hpI h a ∧ hpD h2 a = hpD h a ∧ hpR h2 a = hpR h a := fun a ha z1 z2 z3 z4 => (G2.2 a ha).2 (by omega)
          have rR : hpR h2 = hpR h := by rw [← e2, ← e1]; rfl
          have i11 : ∀ j, hpI h2 (c + 66 + 11) j = if j = s then nI (p + 1) else hpI h (c + 66 + 11) j := fun j => by
            rw [← e2, hpI_stI, if_pos rfl, hpI_stD, hpI_stD, ((G1.2 _ (by omega)).2 (by omega)).1]
          have d12 : ∀ j, hpD h2 (c + 66 + 12) j = if j = 16 * s + p then x else hpD h (c + 66 + 12) j := fun j => by
            rw [← e2, hpD_stI, hpD_stD_ne (Or.inl (by omega)), hpD_stD, if_pos rfl, ((G1.2 _ (by omega)).2 (by omega)).2.1]
          have d13 : ∀ j, hpD h2 (c + 66 + 13) j = if j = 16 * s + p then y else hpD h (c + 66 + 13) j := fun j => by
            rw [← e2, hpD_stI, hpD_stD, if_pos rfl, hpD_stD_ne (Or.inl (by omega)), ((G1.2 _ (by omega)).2 (by omega)).2.1]
          have i10 : hpI h2 (c + 66 + 10) = hpI h (c + 66 + 10) := (q2 _ (by omega) (by omega) (by omega) (by omega) (by omega)).1
          have eS3 : hpI h2 S 3 = nI (p + 1) := by rw [((G12.2 _ (by have := G1.1; omega)).2 (by omega)).1, ← e1, hpI_stI_self]
          have eS0 : hpI h2 S 0 = hpI h S 0 := by rw [((G12.2 _ (by have := G1.1; omega)).2 (by omega)).1, ← e1, hpI_stI_ne (Or.inr (by omega)), hpI_stD, hpI_stD]
          have eD1 : ∀ j, hpD h2 (S + 1) j = if j = p then x else hpD h (S + 1) j := fun j => by rw [((G12.2 _ (by have := G1.1; omega)).2 (by omega)).2.1, ← e1, hpD_stI, hpD_stD_ne (Or.inl (by omega)), hpD_stD, if_pos rfl]
          have eD2 : ∀ j, hpD h2 (S + 2) j = if j = p then y else hpD h (S + 2) j := fun j => by rw [((G12.2 _ (by have := G1.1; omega)).2 (by omega)).2.1, ← e1, hpD_stI, hpD_stD, if_pos rfl, hpD_stD_ne (Or.inl (by omega))]
          refine ig_bld (D := fun a => (S ≤ a ∧ a < S + 3) ∨ a = c + 66 + 11 ∨ a = c + 66 + 12 ∨ a = c + 66 + 13) (nl' := nl) (ns' := ns) (Lw' := Lw) (nv' := nv) (nn' := nn) (τ' := τ) (ig_mono (b' := b + 1) (by omega) I) G2 (fun a _ z => ?_) (fun x hx => rfl) (by rw [rR]) (by rw [rR]) ?_ ?_ ?_ ?_ ?_ ?_ ⟨by omega, fun l hl => ?_⟩
          · rcases z with z | z
            · right; right; right; right
              exact ⟨by omega, by rw [bS.2.2 a z.1 z.2]; omega⟩
            · omega
          · unfold IC
            rw [(q2 c (by omega) (by omega) (by omega) (by omega) (by omega)).1, (q2 (c + 66) (by omega) (by omega) (by omega) (by omega) (by omega)).1]
            exact I.2.1
          · intro l hl
            have bl := I.2.2.2.2.2.2.2.2.2.2.1 l (by omega)
            have bl1 := bl.1
            have dj := bk_dj bl bS (by omega) (by omega) (by omega)
            exact mel_li G2 (mel_me (fun o h1 h2 => ⟨(q2 _ (by omega) (by omega) (by omega) (by omega) (by omega)).1, (q2 _ (by omega) (by omega) (by omega) (by omega) (by omega)).2.1⟩)) (by omega) bl.2.1 (fun a h1 h2 z => by omega) (by rw [rR]) (I.2.2.1 l hl)
          · intro l h1' h2'
            rw [(q2 (c + 66 + 3) (by omega) (by omega) (by omega) (by omega) (by omega)).1, (q2 (c + 66 + 4) (by omega) (by omega) (by omega) (by omega) (by omega)).1, (q2 (c + 66 + 9) (by omega) (by omega) (by omega) (by omega) (by omega)).2.1]
            exact I.2.2.2.1 l h1' h2'
          · refine ⟨⟨by omega, fun s' hs' => ?_⟩, fun j => ?_, ⟨by rw [(G2.2 _ (by omega)).1]; exact j3.1, fun s' hs' => ?_⟩, fun s' h1 h2 => by rw [i11, if_neg (by omega)]; exact j4 s' h1 h2⟩
            · by_cases e : s' = s
              · subst e
                refine ⟨p + 1, by omega, by rw [i11, if_pos rfl], fun j hj => ?_⟩
                rw [d12]
                obtain ⟨n', n1, n2, n3⟩ := j1.2 s' hs'
                have en : n' = p := by rw [s5, ni_eq (by omega) (by omega)] at n2; exact n2.symm
                by_cases u : j = p
                · rw [if_pos (by omega)]; exact nx
                · rw [if_neg (by omega)]; exact n3 j (by omega)
              · obtain ⟨n', n1, n2, n3⟩ := j1.2 s' hs'
                exact ⟨n', n1, by rw [i11, if_neg e]; exact n2, fun j hj => by rw [d12, if_neg (by omega)]; exact n3 j hj⟩
            · rw [d13]
              split
              · exact Or.inl ny
              · exact j2 j
            · by_cases e : s' = s
              · subst e
                refine ⟨S, p + 1, by rw [rR]; exact s1, ⟨by rw [(G2.2 _ (by omega)).1]; exact s2.1, by rw [rR]; exact s2.2.1, by rw [rR]; exact s2.2.2.1, by rw [(G2.2 _ (by omega)).1]; exact s2.2.2.2.1, by rw [(G2.2 _ (by omega)).1]; exact s2.2.2.2.2⟩, by omega, eS3, by rw [i11, if_pos rfl], by rw [eS0, i10]; exact s6, fun j hj => ?_, fun j hj => ?_, fun j hj => ?_⟩
                · rw [eD1, eD2, d12, d13]
                  by_cases u : j = p
                  · rw [if_pos u, if_pos u, if_pos (by omega), if_pos (by omega)]; exact ⟨rfl, rfl⟩
                  · rw [if_neg u, if_neg u, if_neg (by omega), if_neg (by omega)]; exact s7 j (by omega)
                · show Bq (hpD h2 _ _) ∧ Bq (hpD h2 _ _)
                  rw [d12, d13]
                  by_cases u : j = p
                  · rw [if_pos (by omega), if_pos (by omega)]; exact ⟨bx, by'⟩
                  · rw [if_neg (by omega), if_neg (by omega)]; exact s8.1 j (by omega)
                · show ky (hpD h2 _ _) < ky (hpD h2 _ _)
                  rw [d12, d12]
                  by_cases u : j + 1 = p
                  · rw [if_neg (by omega), if_pos (by omega)]
                    have w2 := w.resolve_left (by omega)
                    obtain ⟨n', n1, n2, n3⟩ := j1.2 s' hs'
                    have en : n' = p := by rw [s5, ni_eq (by omega) (by omega)] at n2; exact n2.symm
                    have w3 := (cg_gt_n nx (n3 (p - 1) (by omega))).mp w2
                    rw [show p - 1 = j by omega] at w3
                    exact w3
                  · rw [if_neg (by omega), if_neg (by omega)]; exact s8.2 j (by omega)
              · obtain ⟨S', p', t1, t2, t3, t4, t5, t6, t7, t8⟩ := j3.2 s' (by omega)
                have bT := I.2.2.2.2.2.2.2.2.2.2.2.1 s' (by omega) S' t1
                have bT1 := bT.1
                have bT2 := bT.2.1
                have dj := bk_dj bT bS (by omega) (by omega) (by omega)
                have f : ∀ o, o < 3 → hpI h2 (S' + o) = hpI h (S' + o) ∧ hpD h2 (S' + o) = hpD h (S' + o) := fun o ho => ⟨(q2 _ (by omega) (by omega) (by omega) (by omega) (by omega)).1, (q2 _ (by omega) (by omega) (by omega) (by omega) (by omega)).2.1⟩
                have ff : hpI h2 S' = hpI h S' := (f 0 (by omega)).1
                refine ⟨S', p', by rw [rR]; exact t1, gr_so G2 bT2 (by omega) t2, t3, by rw [ff]; exact t4, by rw [i11, if_neg e]; exact t5, by rw [ff, i10]; exact t6, fun j hj => ?_, fun j hj => ?_, fun j hj => ?_⟩
                · rw [(f 1 (by omega)).2, (f 2 (by omega)).2, d12, d13, if_neg (by omega), if_neg (by omega)]; exact t7 j hj
                · show Bq (hpD h2 _ _) ∧ Bq (hpD h2 _ _)
                  rw [d12, d13, if_neg (by omega), if_neg (by omega)]; exact t8.1 j hj
                · show ky (hpD h2 _ _) < ky (hpD h2 _ _)
                  rw [d12, d12, if_neg (by omega), if_neg (by omega)]; exact t8.2 j hj
          · intro l hl
            exact gr_bk G2 (fun x hx => rfl) (I.2.2.2.2.2.2.2.2.2.2.1 l hl)
          · intro s' hs' S' hS2
            rw [rR] at hS2
            exact gr_bk G2 (fun x hx => rfl) (I.2.2.2.2.2.2.2.2.2.2.2.1 s' hs' S' hS2)
          · refine ⟨rfl, rfl, Nat.le_refl _, fun z => ?_⟩
            unfold SdOK
            rw [(q2 (c + 66 + 4) (by omega) (by omega) (by omega) (by omega) (by omega)).1]; exact z
        · rw [if_neg z3]
          have er1 := er h H c8 s5
          rw [if_pos w, if_neg z3] at er1
          exact ⟨_, h, h, rfl, er1, Ib⟩
      · rw [if_neg w]
        have er1 := er h H c8 s5
        rw [if_neg w] at er1
        exact ⟨_, h, h, rfl, er1, Ib⟩
    · refine ⟨-1, h, h, ?_, ?_, Ib⟩
      · unfold f_X8_point f_X8_point_20
        rw [if_neg (by rw [li0, ni_lt (by omega) (by omega)]; omega), getI_ok X.1, Option.bind_some, c5, if_neg (by rw [ni_le (by omega) (by omega)]; omega), (isK_no hv h).1, bnd_some, if_neg (by decide)]
      · unfold f_X9_point f_X9_point_25
        rw [getI_ok (ro_K H), Option.bind_some, c8, r_in_ok hs (by omega), bnd_some, if_neg (by decide), (isK_no hv h).2, bnd_some, if_neg (by decide)]
  · refine ⟨-1, h, h, ?_, ?_, Ib⟩
    · unfold f_X8_point f_X8_point_20
      by_cases q : p0 < 0
      · rw [if_pos q]
      · rw [if_neg q, getI_ok X.1, Option.bind_some, c5, if_pos (hv.resolve_left q)]
    · unfold f_X9_point f_X9_point_25
      rw [getI_ok (ro_K H), Option.bind_some, c8, r_in_no (by omega) hv, bnd_some, if_pos rfl]
