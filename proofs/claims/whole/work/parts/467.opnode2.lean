theorem gr_adC {h : Hp} {L N : Nat} {k a b cc : Int32} {v : UInt64} : Gr (fun a => L ≤ a ∧ a < L + 6) h (adC h L N k a b cc v) :=
  (((((gr_stI (by omega)).trans (gr_stI (by omega))).trans (gr_stI (by omega))).trans (gr_stI (by omega))).trans (gr_stD (by omega))).trans (gr_stI (by omega))
theorem ro_adC {h : Hp} {m L N : Nat} {k a b cc : Int32} {v : UInt64} (H : RO h m) : RO (adC h L N k a b cc v) m := H
theorem op_constant {b : Nat} {h : Hp} {c : Nat} (I0 : INV b h c) (p0 : Int32) (p1 : Int64) (p2 : Int32) : ∃ a h1 h2, f_X8_constant c p0 p1 p2 h = some (a, h1) ∧ f_X9_constant (c + 66) p0 p1 p2 h1 = some (a, h2) ∧ INV (b + 1) h2 c := by
  have Ib := inv_mono (b' := b + 1) (by omega) I0
  obtain ⟨nl, ns, nr, Lw, nv, nn, Ob, ex, rl, Rc, τ, I⟩ := I0
  have X := I.1.1
  have H := I.1.2.2.2.2.2.2.2
  have hS := xo_S X
  obtain ⟨c1, c2, c3, c4, c5, c6, c7, c8, c9⟩ := I.2.1
  rcases in_cases p0 (N := nl) (by omega) with ⟨l, hl, rfl⟩ | hv
  · rcases k_cases p2 with ⟨k, hk, rfl⟩ | hv
    · obtain ⟨l1, l2, l3, l4, l5, l6⟩ := I.2.2.1 l hl
      have bL := I.2.2.2.2.2.2.2.2.2.2.1 l hl
      have bL1 := bL.1
      have bL2 := bL.2.1
      have hN := l3.2.1
      have h3 := l3.2.2.2.2.2.1
      have ec : f_X8_constant c (nI l) p1 (nI k) h = if nn l < 48 then some (nI (nn l), adC h (Lw l) (nn l) 13 0 0 0 (qV p1 (nI k))) else some (-3, h) := by
        unfold f_X8_constant
        rw [ck_ok X.1, Option.bind_some, c_lawAt_ok I hl, bnd_some, if_neg (by simp), (isK_ok hk h).1, bnd_some, if_pos (by decide), (c_quo hk h).1, bnd_some, ck_ok l2.1, Option.bind_some, c_add l2 l4.2.2.2.1 hN]
        by_cases z : nn l < 48
        · rw [if_pos z, bnd_some]
        · rw [if_neg z, bnd_some]
      have er : ∀ g : Hp, RO g (c + 66) → hpI g (c + 66) 9 = nI nl → hpI g (c + 66 + 3) l = nI (nn l) → f_X9_constant (c + 66) (nI l) p1 (nI k) g = if nn l < 48 then some (nI (nn l), stD (adR g (c + 66) l (nn l) 13 0 0 0) (c + 66 + 9) (48 * l + nn l) (qV p1 (nI k))) else some (-3, g) := fun g Hg h9 h3' => by
        unfold f_X9_constant f_X9_constant_62
        rw [getI_ok (ro_K Hg), Option.bind_some, h9, r_in_ok hl (by omega), bnd_some, if_neg (by decide), (isK_ok hk g).2, bnd_some, if_pos (by decide), ck_ok (ro_K Hg), Option.bind_some, r_comes Hg (by omega) h3' hN]
        by_cases z : nn l < 48
        · have Ha : RO (adR g (c + 66) l (nn l) 13 0 0 0) (c + 66) := Hg
          rw [if_pos z, if_pos z, bnd_some, if_neg (by rw [li0, ni_lt (by omega) (by omega)]; omega), ro_g8 Ha, Option.bind_some, (c_quo hk _).2, bnd_some, show (48 : Int32) * nI l + nI (nn l) = nI (48 * l + nn l) by rw [li48, ni_mul, ni_add], ro_s8 Ha (by omega), Option.bind_some]
        · rw [if_neg z, if_neg z, bnd_some, if_pos (by decide)]
      rw [ec]
      by_cases z : nn l < 48
      · have nd : NdOK (nv l) ns (nn l) 13 0 0 0 := ⟨13, rfl, by omega, fun z => by omega, fun z => by omega, fun z => by omega, fun z => by omega, fun z => by omega, fun z => by omega⟩
        have h9 : hpI (adC h (Lw l) (nn l) 13 0 0 0 (qV p1 (nI k))) (c + 66) 9 = nI nl := by rw [((gr_adC.2 _ (by omega)).2 (by omega)).1]; exact c7
        have h3' : hpI (adC h (Lw l) (nn l) 13 0 0 0 (qV p1 (nI k))) (c + 66 + 3) l = nI (nn l) := by rw [((gr_adC.2 _ (by omega)).2 (by omega)).1]; exact h3
        have er1 := er _ (ro_adC H) h9 h3'
        rw [if_pos z] at er1
        rw [if_pos z]
        exact ⟨nI (nn l), _, _, rfl, er1, ig_node (ig_mono (b' := b + 1) (by omega) I) hl z nd (qV_fn hk).nm⟩
      · have er1 := er h H c7 h3
        rw [if_neg z] at er1
        rw [if_neg z]
        exact ⟨_, h, h, rfl, er1, Ib⟩
    · refine ⟨-1, h, h, ?_, ?_, Ib⟩
      · unfold f_X8_constant f_X8_constant_20
        rw [ck_ok X.1, Option.bind_some, c_lawAt_ok I hl, bnd_some, if_neg (by simp), (isK_no hv h).1, bnd_some, if_neg (by decide)]
      · unfold f_X9_constant f_X9_constant_25
        rw [getI_ok (ro_K H), Option.bind_some, c7, r_in_ok hl (by omega), bnd_some, if_neg (by decide), (isK_no hv h).2, bnd_some, if_neg (by decide)]
  · refine ⟨-1, h, h, ?_, ?_, Ib⟩
    · unfold f_X8_constant f_X8_constant_20
      rw [ck_ok X.1, Option.bind_some, c_lawAt_no I hv, bnd_some, if_pos rfl]
    · unfold f_X9_constant f_X9_constant_25
      rw [getI_ok (ro_K H), Option.bind_some, c7, r_in_no (by omega) hv, bnd_some, if_pos rfl]
theorem op_node {b : Nat} {h : Hp} {c : Nat} (I0 : INV b h c) (p0 p1 p2 p3 p4 : Int32) : ∃ a h1 h2, f_X8_node c p0 p1 p2 p3 p4 h = some (a, h1) ∧ f_X9_node (c + 66) p0 p1 p2 p3 p4 h1 = some (a, h2) ∧ INV (b + 1) h2 c := by
  have Ib := inv_mono (b' := b + 1) (by omega) I0
  obtain ⟨nl, ns, nr, Lw, nv, nn, Ob, ex, rl, Rc, τ, I⟩ := I0
  have X := I.1.1
  have H := I.1.2.2.2.2.2.2.2
  have hS := xo_S X
  obtain ⟨c1, c2, c3, c4, c5, c6, c7, c8, c9⟩ := I.2.1
  rcases in_cases p0 (N := nl) (by omega) with ⟨l, hl, rfl⟩ | hv
  · obtain ⟨l1, l2, l3, l4, l5, l6⟩ := I.2.2.1 l hl
    have bL := I.2.2.2.2.2.2.2.2.2.2.1 l hl
    have bL1 := bL.1
    have bL2 := bL.2.1
    have hN := l3.2.1
    have hn := l3.2.2.2.1
    have h1 := l3.2.2.2.2.1
    have h3 := l3.2.2.2.2.2.1
    rcases in_cases p1 (N := 13) (by omega) with ⟨j, hj, rfl⟩ | hv
    · have ec : f_X8_node c (nI l) (nI j) p2 p3 p4 h = if fitB (nv l) (nn l) ns j p2 p3 p4 = true then (if nn l < 48 then some (nI (nn l), adC h (Lw l) (nn l) (nI j) p2 p3 p4 FP.dconst0) else some (-3, h)) else some (-1, h) := by
        unfold f_X8_node f_X8_node_27
        rw [ck_ok X.1, Option.bind_some, c_lawAt_ok I hl, bnd_some, if_neg (by simp), ck_ok X.1, Option.bind_some, c_fits X l2 l4.2.1 l4.2.2.2.1 c5 hj, bnd_some]
        by_cases f : fitB (nv l) (nn l) ns j p2 p3 p4 = true
        · rw [f, if_pos rfl, if_pos (by decide), ck_ok l2.1, Option.bind_some, c_add l2 l4.2.2.2.1 hN]
          by_cases z : nn l < 48
          · rw [if_pos z, bnd_some]
          · rw [if_neg z, bnd_some]
        · rw [if_neg f, if_neg (by rw [bi0]; exact fun w => w f)]
      have er : ∀ g : Hp, RO g (c + 66) → hpI g (c + 66) = hpI h (c + 66) → hpI g (c + 66 + 1) l = nI (nv l) → hpI g (c + 66 + 3) l = nI (nn l) → f_X9_node (c + 66) (nI l) (nI j) p2 p3 p4 g = if fitB (nv l) (nn l) ns j p2 p3 p4 = true then (if nn l < 48 then some (nI (nn l), adR g (c + 66) l (nn l) (nI j) p2 p3 p4) else some (-3, g)) else some (-1, g) := fun g Hg h9 h1' h3' => by
        rw [r_node Hg (by omega) ⟨nl, hl, c1, by rw [h9]; exact c7⟩ h1' h3' (by rw [h9]; exact c8) (by omega) (by omega) (by omega) hj, r_comes Hg (by omega) h3' hN]
      rw [ec]
      by_cases f : fitB (nv l) (nn l) ns j p2 p3 p4 = true
      · by_cases z : nn l < 48
        · have nd := nd_of hj (by omega) (by omega) (by omega) f
          have h9 : hpI (adC h (Lw l) (nn l) (nI j) p2 p3 p4 FP.dconst0) (c + 66) = hpI h (c + 66) := ((gr_adC.2 _ (by omega)).2 (by omega)).1
          have h1' : hpI (adC h (Lw l) (nn l) (nI j) p2 p3 p4 FP.dconst0) (c + 66 + 1) l = nI (nv l) := by rw [((gr_adC.2 _ (by omega)).2 (by omega)).1]; exact h1
          have h3' : hpI (adC h (Lw l) (nn l) (nI j) p2 p3 p4 FP.dconst0) (c + 66 + 3) l = nI (nn l) := by rw [((gr_adC.2 _ (by omega)).2 (by omega)).1]; exact h3
          have er1 := er _ (ro_adC H) h9 h1' h3'
          have e0 : hpD (adR (adC h (Lw l) (nn l) (nI j) p2 p3 p4 FP.dconst0) (c + 66) l (nn l) (nI j) p2 p3 p4) (c + 66 + 9) (48 * l + nn l) = FP.dconst0 := by
            unfold adR
            rw [hpD_stI, hpD_stI, hpD_stI, hpD_stI, hpD_stI, ((gr_adC.2 _ (by omega)).2 (by omega)).2.1, l6.1.2 (nn l) (by omega) z]
            rfl
          have ig := ig_node (ig_mono (b' := b + 1) (by omega) I) hl z (v := FP.dconst0) nd nm_0
          rw [stD_id e0] at ig
          rw [if_pos f, if_pos z] at er1
          rw [if_pos f, if_pos z]
          exact ⟨nI (nn l), _, _, rfl, er1, ig⟩
        · have er1 := er h H rfl h1 h3
          rw [if_pos f, if_neg z] at er1
          rw [if_pos f, if_neg z]
          exact ⟨_, h, h, rfl, er1, Ib⟩
      · have er1 := er h H rfl h1 h3
        rw [if_neg f] at er1
        rw [if_neg f]
        exact ⟨_, h, h, rfl, er1, Ib⟩
    · refine ⟨-1, h, h, ?_, ?_, Ib⟩
      · unfold f_X8_node f_X8_node_27 f_X8_fits
        rw [ck_ok X.1, Option.bind_some, c_lawAt_ok I hl, bnd_some, if_neg (by simp), ck_ok X.1, Option.bind_some, if_pos (show p1.toInt < 0 ∨ 12 < p1.toInt by
          rw [Int32.lt_iff_toInt_lt, Int32.le_iff_toInt_le, ni_toInt (by omega)] at hv
          have e : (0 : Int32).toInt = 0 := by decide
          omega), if_pos (by decide), bnd_some, if_neg (by decide)]
      · have i12 : f_X9_in p1 0 12 h = some (0, h) := by
          have := r_in_no (v := p1) (N := 13) (by omega) hv h
          rw [show nI 13 - 1 = 12 by decide] at this
          exact this
        unfold f_X9_node f_X9_node_24
        rw [getI_ok (ro_K H), Option.bind_some, c7, r_in_ok hl (by omega), bnd_some, if_neg (by decide), i12, bnd_some, if_neg (by decide)]
  · refine ⟨-1, h, h, ?_, ?_, Ib⟩
    · unfold f_X8_node f_X8_node_27
      rw [ck_ok X.1, Option.bind_some, c_lawAt_no I hv, bnd_some, if_pos rfl]
    · unfold f_X9_node f_X9_node_24
      rw [getI_ok (ro_K H), Option.bind_some, c7, r_in_no (by omega) hv, bnd_some, if_pos rfl]
