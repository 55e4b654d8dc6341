theorem c_readyloop {h : Hp} {L K sg n N : Nat} (H : LO h L K sg n) (e1 : hpI h L 1 = nI n) (hn : n ≤ 6) (hN : N ≤ 48) (sd : ∀ j, j < n → hpI h (L + 9) j = -1 ∨ ∃ q, q < N ∧ hpI h (L + 9) j = nI q) : ∀ k i f, i + k = n → k < f → ((∃ i', i ≤ i' ∧ i' < n ∧ hpI h (L + 9) i' = -1) → f_X1_isReady_2 f (some L) (nI i) h = some (0, h)) ∧ ((∀ i', i ≤ i' → i' < n → hpI h (L + 9) i' ≠ -1) → f_X1_isReady_2 f (some L) (nI i) h = some (1, h)) := by
  have r11 : getR h (some L) 1 11 = some (some (L + 9)) := by rw [getR_ok H.1, H.2.2.2.2.2.2.2.2.1]
  have k9 : hpK h (L + 9) = some (11, n) := H.2.2.2.2.2.2.2.2.2.2.2.2.2.2.2.2
  intro k
  induction k with
  | zero =>
    intro i f e hf
    cases f with
    | zero => omega
    | succ f =>
      refine ⟨fun ⟨r', h1, h2, h3⟩ => by omega, fun _ => ?_⟩
      unfold f_X1_isReady_2
      rw [getI_ok H.1, Option.bind_some, e1, if_pos (by rw [ni_le (by omega) (by omega)]; omega), if_pos (by decide)]
  | succ k ih =>
    intro i f e hf
    cases f with
    | zero => omega
    | succ f =>
      obtain ⟨ih1, ih2⟩ := ih (i + 1) f (by omega) (by omega)
      have one : f_X1_isReady_2 (f + 1) (some L) (nI i) h = if hpI h (L + 9) i = -1 then some (0, h) else f_X1_isReady_2 f (some L) (nI (i + 1)) h := by
        conv => lhs; unfold f_X1_isReady_2
        rw [getI_ok H.1, Option.bind_some, e1, if_neg (by rw [ni_le (by omega) (by omega)]; omega), r11, Option.bind_some, aldI_ok k9 (ni_in (show i < n by omega) (by omega)), ni_cl (by omega), Option.bind_some, show nI i + 1 = nI (i + 1) by rw [li1, ni_add]]
        rcases sd i (by omega) with z | ⟨q, z1, z2⟩
        · rw [z, if_neg (by decide), if_pos (by decide), if_pos rfl]
        · rw [z2, if_pos (by rw [li0, ni_le (by omega) (by omega)]; omega), if_neg (ni_neg1 (by omega))]
      rw [one]
      refine ⟨fun ⟨r', h1, h2, h3⟩ => ?_, fun no => ?_⟩
      · by_cases z : hpI h (L + 9) i = -1
        · rw [if_pos z]
        · rw [if_neg z]
          refine ih1 ⟨r', ?_, h2, h3⟩
          by_cases w : r' = i
          · rw [w] at h3; exact absurd h3 z
          · omega
      · rw [if_neg (no i (by omega) (by omega))]
        exact ih2 (fun r' h1 h2 => no r' (by omega) h2)
def ruR (g : Hp) (m l nr : Nat) (t : UInt64) : Hp := stI (stD (stD (stD (stI g (m + 14) nr (nI l)) (m + 24) nr t) (m + 25) nr 4593671619917905920) (m + 26) nr 4517110426252607488) m 45 (nI (nr + 1))
theorem r_runend {g : Hp} {m l n nr k : Nat} {p1 : Int64} (H : RO g m) (hl : l < 8) (e1 : hpI g (m + 1) l = nI n) (hn : n ≤ 6) (e45 : hpI g m 45 = nI nr) (hnr : nr ≤ 4) (hk : k ≤ 30) (f : Nat) : f_X9_run_30 (f + 1) (some m) (nI l) p1 (nI k) (nI n) g = if nr < 4 then some (nI nr, ruR g m l nr (qV p1 (nI k))) else some (-3, g) := by
  have num1 : ∀ u : Hp, f_X9_number p1 (nI k) u = some (qV p1 (nI k), u) := fun u => (c_quo hk u).2
  generalize qV p1 (nI k) = t at num1
  unfold f_X9_run_30
  rw [ro_g0 H, Option.bind_some, ro_a0 H hl, Option.bind_some, e1, if_pos (by rw [ni_le (by omega) (by omega)]; omega), getI_ok (ro_K H), Option.bind_some, e45]
  by_cases z : nr < 4
  · have H1 : RO (stI g (m + 14) nr (nI l)) m := H
    have H2 : RO (stD (stI g (m + 14) nr (nI l)) (m + 24) nr t) m := H
    have H3 : RO (stD (stD (stI g (m + 14) nr (nI l)) (m + 24) nr t) (m + 25) nr 4593671619917905920) m := H
    have H4 : RO (stD (stD (stD (stI g (m + 14) nr (nI l)) (m + 24) nr t) (m + 25) nr 4593671619917905920) (m + 26) nr 4517110426252607488) m := H
    have H5 : RO (stI (stD (stD (stD (stI g (m + 14) nr (nI l)) (m + 24) nr t) (m + 25) nr 4593671619917905920) (m + 26) nr 4517110426252607488) m 45 (nI (nr + 1))) m := H
    have q1 : hpI (stI g (m + 14) nr (nI l)) m 45 = nI nr := by rw [hpI_stI_ne (Or.inl (by omega))]; exact e45
    have q2 : hpI (stD (stI g (m + 14) nr (nI l)) (m + 24) nr t) m 45 = nI nr := q1
    have q3 : hpI (stD (stD (stI g (m + 14) nr (nI l)) (m + 24) nr t) (m + 25) nr 4593671619917905920) m 45 = nI nr := q1
    have q4 : hpI (stD (stD (stD (stI g (m + 14) nr (nI l)) (m + 24) nr t) (m + 25) nr 4593671619917905920) (m + 26) nr 4517110426252607488) m 45 = nI nr := q1
    rw [if_pos z, if_pos (show ¬ nI nr = 4 by rw [li4, ni_eq (by omega) (by omega)]; omega), ro_g15 H, Option.bind_some, Option.bind_some, ro_s15 H (by omega), Option.bind_some, ro_g25 H1, Option.bind_some, getI_ok (ro_K H1), Option.bind_some, q1, num1, bnd_some, ro_s25 H1 (by omega), Option.bind_some, ro_g26 H2, Option.bind_some, getI_ok (ro_K H2), Option.bind_some, q2, ro_s26 H2 (by omega), Option.bind_some, ro_g27 H3, Option.bind_some, getI_ok (ro_K H3), Option.bind_some, q3, ro_s27 H3 (by omega), Option.bind_some, getI_ok (ro_K H4), Option.bind_some, q4, putI_ok (ro_K H4), Option.bind_some, show nI nr + 1 = nI (nr + 1) by rw [li1, ni_add], getI_ok (ro_K H5), Option.bind_some, hpI_stI_self, show nI (nr + 1) - 1 = nI nr by rw [li1, ni_sub (by omega)]; rfl]
    rfl
  · rw [if_neg z, if_neg (show ¬ ¬ nI nr = 4 by rw [li4, ni_eq (by omega) (by omega)]; omega)]
theorem r_runloop {g : Hp} {m l n N nr kk : Nat} {p1 : Int64} (H : RO g m) (hl : l < 8) (e1 : hpI g (m + 1) l = nI n) (hn : n ≤ 6) (hN : N ≤ 48) (e45 : hpI g m 45 = nI nr) (hnr : nr ≤ 4) (hk : kk ≤ 30) (sd : ∀ j, j < n → hpI g (m + 4) (6 * l + j) = -1 ∨ ∃ q, q < N ∧ hpI g (m + 4) (6 * l + j) = nI q) : ∀ k i f, i + k = n → k < f → ((∃ i', i ≤ i' ∧ i' < n ∧ hpI g (m + 4) (6 * l + i') = -1) → f_X9_run_30 f (some m) (nI l) p1 (nI kk) (nI i) g = some (-2, g)) ∧ ((∀ i', i ≤ i' → i' < n → hpI g (m + 4) (6 * l + i') ≠ -1) → f_X9_run_30 f (some m) (nI l) p1 (nI kk) (nI i) g = if nr < 4 then some (nI nr, ruR g m l nr (qV p1 (nI kk))) else some (-3, g)) := by
  intro k
  induction k with
  | zero =>
    intro i f e hf
    cases f with
    | zero => omega
    | succ f =>
      refine ⟨fun ⟨r', h1, h2, h3⟩ => by omega, fun _ => ?_⟩
      rw [show i = n by omega]
      exact r_runend H hl e1 hn e45 hnr hk f
  | succ k ih =>
    intro i f e hf
    cases f with
    | zero => omega
    | succ f =>
      obtain ⟨ih1, ih2⟩ := ih (i + 1) f (by omega) (by omega)
      have one : f_X9_run_30 (f + 1) (some m) (nI l) p1 (nI kk) (nI i) g = if hpI g (m + 4) (6 * l + i) = -1 then some (-2, g) else f_X9_run_30 f (some m) (nI l) p1 (nI kk) (nI (i + 1)) g := by
        conv => lhs; unfold f_X9_run_30
        rw [ro_g0 H, Option.bind_some, ro_a0 H hl, Option.bind_some, e1, if_neg (by rw [ni_le (by omega) (by omega)]; omega), ro_g3 H, Option.bind_some, show (6 : Int32) * nI l + nI i = nI (6 * l + i) by rw [li6, ni_mul, ni_add], ro_a3 H (by omega), Option.bind_some, show nI i + 1 = nI (i + 1) by rw [li1, ni_add]]
        rcases sd i (by omega) with z | ⟨q, z1, z2⟩
        · rw [z, if_neg (by decide), if_pos rfl]
        · rw [z2, if_pos (by rw [li0, ni_le (by omega) (by omega)]; omega), if_neg (ni_neg1 (by omega))]
      rw [one]
      refine ⟨fun ⟨r', h1, h2, h3⟩ => ?_, fun no => ?_⟩
      · by_cases z : hpI g (m + 4) (6 * l + i) = -1
        · rw [if_pos z]
        · rw [if_neg z]
          refine ih1 ⟨r', ?_, h2, h3⟩
          by_cases w : r' = i
          · rw [w] at h3; exact absurd h3 z
          · omega
      · rw [if_neg (no i (by omega) (by omega))]
        exact ih2 (fun r' h1 h2 => no r' (by omega) h2)
theorem op_run {b : Nat} {h : Hp} {c : Nat} (I0 : INV b h c) (p0 : Int32) (p1 : Int64) (p2 : Int32) : ∃ a h1 h2, f_X8_run c p0 p1 p2 h = some (a, h1) ∧ f_X9_run (c + 66) p0 p1 p2 h1 = some (a, h2) ∧ INV (b + 1) h2 c := by
  have Ib := inv_mono (b' := b + 1) (by omega) I0
  obtain ⟨nl, ns, nr, Lw, nv, nn, Ob, ex, rl, Rc, τ, I⟩ := I0
  have X := I.1.1
  have H := I.1.2.2.2.2.2.2.2
  have hS := xo_S X
  obtain ⟨c1, c2, c3, c4, c5, c6, c7, c8, c9⟩ := I.2.1
  rcases in_cases p0 (N := nl) (by omega) with ⟨l, hl, rfl⟩ | hv
  · obtain ⟨l1, l2, l3, l4, l5, l6⟩ := I.2.2.1 l hl
    have bL := I.2.2.2.2.2.2.2.2.2.2.1 l hl
    have bL1 := bL.1
    have bL2 := bL.2.1
    have hN := l3.2.1
    have hn := l3.2.2.2.1
    have h1 := l3.2.2.2.2.1
    have g6 := l4.2.2.2.2.2
    rcases k_cases p2 with ⟨k, hk, rfl⟩ | hv
    · have cl := c_readyloop l2 l4.2.1 hn hN (fun j hj => by rw [g6 j hj]; exact l6.1.1 j hj) (nv l) 0 fuelN (by omega) (by unfold fuelN; omega)
      have er : ∀ g : Hp, RO g (c + 66) → hpI g (c + 66) 9 = nI nl → f_X9_run (c + 66) (nI l) p1 (nI k) g = f_X9_run_30 fuelN (some (c + 66)) (nI l) p1 (nI k) (nI 0) g := fun g Hg h9 => by
        unfold f_X9_run
        rw [getI_ok (ro_K Hg), Option.bind_some, h9, r_in_ok hl (by omega), bnd_some, if_neg (by decide), (isK_ok hk g).2, bnd_some, if_pos (by decide)]
        rfl
      by_cases z : ∃ i', 0 ≤ i' ∧ i' < nv l ∧ hpI h (c + 66 + 4) (6 * l + i') = -1
      · refine ⟨-2, h, h, ?_, ?_, Ib⟩
        · have cl1 : f_X1_isReady_2 fuelN (some (Lw l)) 0 h = some (0, h) := cl.1 (by obtain ⟨i', u1, u2, u3⟩ := z; exact ⟨i', u1, u2, by rw [g6 i' u2]; exact u3⟩)
          unfold f_X8_run f_X1_isReady
          rw [ck_ok X.1, Option.bind_some, c_lawAt_ok I hl, bnd_some, if_neg (by simp), (isK_ok hk h).1, bnd_some, if_pos (by decide), ck_ok l2.1, Option.bind_some, cl1, bnd_some, if_neg (by decide)]
        · rw [er h H c7]
          exact (r_runloop (p1 := p1) H (by omega) h1 hn hN c9 c3 hk l6.1.1 (nv l) 0 fuelN (by omega) (by unfold fuelN; omega)).1 z
      · have no : ∀ i', 0 ≤ i' → i' < nv l → hpI h (c + 66 + 4) (6 * l + i') ≠ -1 := fun r' u1 u2 u3 => z ⟨r', u1, u2, u3⟩
        have cl2 : f_X1_isReady_2 fuelN (some (Lw l)) 0 h = some (1, h) := cl.2 (fun i' u1 u2 => by rw [g6 i' u2]; exact no i' u1 u2)
        have sd : SdOK h (c + 66) l (nv l) (nn l) := fun i hi => by
          rcases l6.1.1 i hi with w | ⟨q, w1, w2⟩
          · exact absurd w (no i (by omega) hi)
          · exact ⟨q, w2, w1⟩
        by_cases z4 : nr < 4
        · obtain ⟨h0, e0, s0, RB0, RN0, SN0, rf0, CR0, U0⟩ := run_new h (k := c + 1) (L := some (Lw l)) (t := qV p1 (nI k))
          have q0 : ∀ a, a < hpS h → hpK h0 a = hpK h a ∧ hpI h0 a = hpI h a ∧ hpD h0 a = hpD h a ∧ hpR h0 a = hpR h a := fun a ha => ⟨(U0 a ha).1, (U0 a ha).2.1, (U0 a ha).2.2.1, (U0 a ha).2.2.2 (fun z => z)⟩
          have G0 : Gr (fun _ => False) h h0 := gr_ux U0 (by omega)
          have ga : Gr (fun _ => False) h (alo h (4, 0)) := gr_alo
          have K8 : hpK (alo h (4, 0)) c = some (8, 0) := by rw [(ga.2 c (by omega)).1]; exact X.1
          have r8 := ((ga.2 c (by omega)).2 (fun z => z)).2.2
          have g6' : getR h (some c) 8 6 = some (some (c + 6)) := by rw [getR_ok X.1, X.2.2.2.2.2.1]
          have K60 : hpK h0 (c + 6) = some (15, 4) := by rw [(q0 _ (by omega)).1]; exact xo_k6 X
          have K80 : hpK h0 c = some (8, 0) := by rw [(q0 _ (by omega)).1]; exact X.1
          have A0' : astR h0 (some (c + 6)) 15 (nI nr) (some (hpS h)) = some (stR h0 (c + 6) nr (some (hpS h))) := by
            rw [astR_ok K60 (ni_in z4 (by omega)) (by show hpK h0 (hpS h) = some (4, 0); exact RB0.1), ni_cl (by omega)]
          have K81 : hpK (stR h0 (c + 6) nr (some (hpS h))) c = some (8, 0) := K80
          have K82 : hpK (stI (stR h0 (c + 6) nr (some (hpS h))) c 7 (nI (nr + 1))) c = some (8, 0) := K80
          have i7a : hpI (stR h0 (c + 6) nr (some (hpS h))) c 7 = nI nr := by show hpI h0 c 7 = _; rw [(q0 c (by omega)).2.1]; exact c6
          have ec : f_X8_run c (nI l) p1 (nI k) h = some (nI nr, stI (stR h0 (c + 6) nr (some (hpS h))) c 7 (nI (nr + 1))) := by
            unfold f_X8_run f_X1_isReady
            rw [ck_ok X.1, Option.bind_some, c_lawAt_ok I hl, bnd_some, if_neg (by simp), (isK_ok hk h).1, bnd_some, if_pos (by decide), ck_ok l2.1, Option.bind_some, cl2, bnd_some, if_pos (by decide), getI_ok X.1, Option.bind_some, c6, if_pos (by rw [li4, ni_lt (by omega) (by omega)]; exact z4), g6', Option.bind_some, Option.bind_some, newo_def, (c_quo hk _).1, bnd_some, getR_ok K8, Option.bind_some, r8, X.2.1, e0, bnd_some, A0', Option.bind_some, getI_ok K81, Option.bind_some, i7a, putI_ok K81, Option.bind_some, show nI nr + 1 = nI (nr + 1) by rw [li1, ni_add], getI_ok K82, Option.bind_some, hpI_stI_self, show nI (nr + 1) - 1 = nI nr by rw [li1, ni_sub (by omega)]; rfl]
          rw [ec]
          clear ec A0'
          have nx : Nm (qV p1 (nI k)) := (qV_fn (p := p1) hk).nm
          have nz : qV p1 (nI k) ≠ mz := (qV_b (p := p1) hk).2.1
          have rl2 := fun (g : Hp) (Hg : RO g (c + 66)) h1' h45 sd' no' => (r_runloop (p1 := p1) Hg (show l < 8 by omega) h1' hn hN h45 c3 hk sd' (nv l) 0 fuelN (by omega) (by unfold fuelN; omega)).2 no'
          obtain ⟨t, ht⟩ : ∃ x, qV p1 (nI k) = x := ⟨_, rfl⟩
          rw [ht] at e0 CR0 nx nz rl2
          generalize e1 : stI (stR h0 (c + 6) nr (some (hpS h))) c 7 (nI (nr + 1)) = h1'
          have G01 : Gr (fun a => a = c ∨ a = c + 6) h0 h1' := by rw [← e1]; exact (gr_stR (Or.inr rfl)).trans (gr_stI (Or.inl rfl))
          have G1 : Gr (fun a => a = c ∨ a = c + 6) h h1' := (G0.mono (fun a _ z => z.elim)).trans G01
          have H1 : RO h1' (c + 66) := gr_ro G1 (by omega) ((G1.2 _ (by omega)).2 (by omega)).2.2 H
          have qm : ∀ o, o < 58 → hpI h1' (c + 66 + o) = hpI h (c + 66 + o) ∧ hpD h1' (c + 66 + o) = hpD h (c + 66 + o) := fun o ho => ⟨((G1.2 _ (by omega)).2 (by omega)).1, ((G1.2 _ (by omega)).2 (by omega)).2.1⟩
          have qm0 : hpI h1' (c + 66) = hpI h (c + 66) := (qm 0 (by omega)).1
          have er1 : f_X9_run (c + 66) (nI l) p1 (nI k) h1' = some (nI nr, ruR h1' (c + 66) l nr t) := by
            rw [er h1' H1 (by rw [qm0]; exact c7), rl2 h1' H1 (by rw [(qm 1 (by omega)).1]; exact h1) (by rw [qm0]; exact c9) (fun j hj => by rw [(qm 4 (by omega)).1]; exact l6.1.1 j hj) (fun i u1 u2 => by rw [(qm 4 (by omega)).1]; exact no i u1 u2), if_pos z4]
          refine ⟨nI nr, h1', ruR h1' (c + 66) l nr t, rfl, er1, ?_⟩
          clear er er1 rl2
          have S1 : hpS h1' = hpS h + 41 := by rw [← e1]; exact s0
          generalize e2 : ruR h1' (c + 66) l nr t = h2
          have G12 : Gr (fun a => a = c + 66 ∨ a = c + 66 + 14 ∨ a = c + 66 + 24 ∨ a = c + 66 + 25 ∨ a = c + 66 + 26) h1' h2 := by
            rw [← e2]; unfold ruR
            exact ((((gr_stI (by omega)).trans (gr_stD (by omega))).trans (gr_stD (by omega))).trans (gr_stD (by omega))).trans (gr_stI (by omega))
          have G02 : Gr (fun a => a = c ∨ a = c + 6 ∨ a = c + 66 ∨ a = c + 66 + 14 ∨ a = c + 66 + 24 ∨ a = c + 66 + 25 ∨ a = c + 66 + 26) h0 h2 := (G01.mono (fun a _ z => by omega)).trans (G12.mono (fun a _ z => by omega))
          have G2 : Gr (fun a => a = c ∨ a = c + 6 ∨ a = c + 66 ∨ a = c + 66 + 14 ∨ a = c + 66 + 24 ∨ a = c + 66 + 25 ∨ a = c + 66 + 26) h h2 := (G1.mono (fun a _ z => by omega)).trans (G12.mono (fun a _ z => by omega))
          have R2 : hpR h2 = hpR h1' := by rw [← e2]; rfl
          have R1 : hpR h1' (c + 6) = up1 (hpR h (c + 6)) nr (some (hpS h)) := by
            rw [← e1]; show hpR (stR h0 (c + 6) nr (some (hpS h))) (c + 6) = _; rw [up_stR, (q0 _ (by omega)).2.2.2]
          refine ig_run (t := t) (ig_mono (b' := b + 1) (by omega) I) hl z4 sd nx nz G2 ?_ (gr_rx G02 (by omega) (fun a h1 h2 z => by omega) ⟨RB0, RN0, SN0⟩) (gr_cr (CR0 _ _) G02 (by omega) (fun a h1 h2 z => by omega)) (by rw [((G02.2 _ (by omega)).2 (by omega)).2.2]; exact rf0) ?_ ?_ (by rw [R2]; exact R1) (fun j => ?_) (fun j => ?_) (fun j => ?_) (fun j => ?_) (fun j => ?_) (fun j => ?_)
          · rw [← e2]; exact S1
          · rw [R2, ← e1]; show hpR (stR h0 (c + 6) nr (some (hpS h))) c = _; rw [stR_ne (by omega), (q0 _ (by omega)).2.2.2]
          · rw [R2, ← e1]; show hpR (stR h0 (c + 6) nr (some (hpS h))) (c + 66) = _; rw [stR_ne (by omega), (q0 _ (by omega)).2.2.2]
          · rw [((G12.2 _ (by omega)).2 (by omega)).1, ← e1, hpI_stI, if_pos rfl, hpI_stR, (q0 c (by omega)).2.1]
          · rw [← e2]; unfold ruR
            rw [hpI_stI, if_pos rfl, hpI_stD, hpI_stD, hpI_stD, hpI_stI_ne (Or.inl (by omega)), qm0]
          · rw [← e2]; unfold ruR
            rw [hpI_stI_ne (Or.inl (by omega)), hpI_stD, hpI_stD, hpI_stD, hpI_stI, if_pos rfl, (qm 14 (by omega)).1]
          · rw [← e2]; unfold ruR
            rw [hpD_stI, hpD_stD_ne (Or.inl (by omega)), hpD_stD_ne (Or.inl (by omega)), hpD_stD, if_pos rfl, hpD_stI, (qm 24 (by omega)).2]
          · rw [← e2]; unfold ruR
            rw [hpD_stI, hpD_stD_ne (Or.inl (by omega)), hpD_stD, if_pos rfl, hpD_stD_ne (Or.inl (by omega)), hpD_stI, (qm 25 (by omega)).2]
          · rw [← e2]; unfold ruR
            rw [hpD_stI, hpD_stD, if_pos rfl, hpD_stD_ne (Or.inl (by omega)), hpD_stD_ne (Or.inl (by omega)), hpD_stI, (qm 26 (by omega)).2]
        · refine ⟨-3, h, h, ?_, ?_, Ib⟩
          · unfold f_X8_run f_X1_isReady
            rw [ck_ok X.1, Option.bind_some, c_lawAt_ok I hl, bnd_some, if_neg (by simp), (isK_ok hk h).1, bnd_some, if_pos (by decide), ck_ok l2.1, Option.bind_some, cl2, bnd_some, if_pos (by decide), getI_ok X.1, Option.bind_some, c6, if_neg (by rw [li4, ni_lt (by omega) (by omega)]; exact z4)]
          · rw [er h H c7, (r_runloop (p1 := p1) H (show l < 8 by omega) h1 hn hN c9 c3 hk l6.1.1 (nv l) 0 fuelN (by omega) (by unfold fuelN; omega)).2 no, if_neg z4]
    · refine ⟨-1, h, h, ?_, ?_, Ib⟩
      · unfold f_X8_run f_X8_run_20
        rw [ck_ok X.1, Option.bind_some, c_lawAt_ok I hl, bnd_some, if_neg (by simp), (isK_no hv h).1, bnd_some, if_neg (by decide)]
      · unfold f_X9_run f_X9_run_25
        rw [getI_ok (ro_K H), Option.bind_some, c7, r_in_ok hl (by omega), bnd_some, if_neg (by decide), (isK_no hv h).2, bnd_some, if_neg (by decide)]
  · refine ⟨-1, h, h, ?_, ?_, Ib⟩
    · unfold f_X8_run f_X8_run_20
      rw [ck_ok X.1, Option.bind_some, c_lawAt_no I hv, bnd_some, if_pos rfl]
    · unfold f_X9_run f_X9_run_25
      rw [getI_ok (ro_K H), Option.bind_some, c7, r_in_no (by omega) hv, bnd_some, if_pos rfl]
