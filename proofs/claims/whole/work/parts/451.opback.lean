theorem in3_ok {p : Nat} (hp : p < 4) (h : Hp) : f_X9_in (nI p) 0 3 h = some (1, h) := by
  rw [r_in, if_pos (show 0 ≤ nI p ∧ nI p ≤ 3 by rw [li0, li3, ni_le (by omega) (by omega), ni_le (by omega) (by omega)]; omega)]
theorem in3_no {v : Int32} (hv : v < 0 ∨ nI 4 ≤ v) (h : Hp) : f_X9_in v 0 3 h = some (0, h) := by
  rw [r_in, if_neg]
  rintro ⟨w1, w2⟩
  rcases hv with v | v
  · exact absurd v (Int32.not_lt.mpr w1)
  · rw [Int32.le_iff_toInt_le] at v w2
    rw [ni_toInt (by omega)] at v
    have : (3 : Int32).toInt = 3 := by decide
    omega
theorem op_back {b : Nat} {h : Hp} {c : Nat} (I0 : INV b h c) (p0 p1 : Int32) : ∃ a h1 h2, f_X8_back c p0 p1 h = some (a, h1) ∧ f_X9_back (c + 66) p0 p1 h1 = some (a, h2) ∧ INV (b + 1) h2 c := by
  have Ib := inv_mono (b' := b + 1) (by omega) I0
  obtain ⟨nl, ns, nr, Lw, nv, nn, Ob, ex, rl, Rc, τ, I⟩ := I0
  have X := I.1.1
  have H := I.1.2.2.2.2.2.2.2
  have nr4 := I.2.1.2.2.1
  unfold f_X8_back f_X9_back f_X8_back_19 f_X9_back_17
  rcases in_cases p0 (N := nr) (by omega) with ⟨s, hs, rfl⟩ | hv
  · obtain ⟨s4, he, hl, si, W⟩ := sl I hs
    have B := W.2.1
    obtain ⟨sd, al, R, C, va, r0⟩ := si
    have b1 := (I.2.2.2.2.2.2.2.2.2.2.2.2 s (by omega) he)
    have b11 := b1.1
    simp only [xo_ck X, Option.bind_some, c_runAt_ok I hs, bnd_some]
    rw [if_neg (show ¬ some (Ob s) = none by simp)]
    rcases in_cases p1 (N := 4) (by omega) with ⟨p, hp, rfl⟩ | hv
    · have g8 : getR h (some c) 8 8 = some (some (c + 7)) := by rw [getR_ok X.1, X.2.2.2.2.2.2.1]
      have k7 : hpK h (c + 7) = some (15, 5) := X.2.2.2.2.2.2.2.2.2.2.2.2.1
      have kp := I.2.2.2.2.2.2.2.2.1 p (by omega)
      have mp := I.2.2.2.2.2.2.2.2.2.1 p hp
      rw [if_neg (by rw [li0, ni_lt (by omega) (by omega)]; omega), if_pos (by rw [li4, ni_lt (by omega) (by omega)]; omega), g8, Option.bind_some, aldR_ok k7 (ni_in (show p < 5 by omega) (by omega)), ni_cl (by omega), Option.bind_some, kp]
      cases ee : ex (4 + p) with
      | false =>
        rw [if_neg (by simp)]
        refine ⟨_, h, h, rfl, ?_, Ib⟩
        rw [ro_ck H, Option.bind_some, r_isRun_ok I hs, bnd_some, if_neg (by decide), in3_ok hp, bnd_some, if_pos (by decide), ro_g24 H, Option.bind_some, ro_a24 H hp, Option.bind_some, mp, ee, if_neg (by simp)]
      | true =>
        obtain ⟨hl2, si2, W2⟩ := sk I (show 4 + p < 8 by omega) ee
        obtain ⟨jn, jn1, jN, jl8, je1, je3, jen, jeN, -⟩ := wr_nv W2
        have B2 := W2.2.1
        obtain ⟨sd2, al2, R2, C2, va2, r02⟩ := si2
        have b2 := (I.2.2.2.2.2.2.2.2.2.2.2.2 (4 + p) (by omega) ee)
        have dj := bk_dj b2 b1 (by omega) (by omega) (by omega)
        have h7 : hpI h (Ob (4 + p)) 7 = 0 ∨ hpI h (Ob (4 + p)) 7 = 1 := by rw [(cr_h C2).2.2.2.2.2.1]; exact va2.2.2.2.2.1
        obtain ⟨h1, ec, RB1, RN1, SN1, rf1, CR1, F1⟩ := c_runcopy B B2 dj W2.2.2.1 W2.2.2.2.1 W.2.2.2.1 h7
        rw [if_pos rfl, if_pos (by simp), rb_ck B, Option.bind_some, ec, bnd_some]
        have I1 := ig_own (ig_weak (s0 := s) I) (by omega) he hl2 (Q := fun a => a = Ob s ∨ a = Ob s + 12) (fun a z => z) F1 ⟨RB1, RN1, SN1⟩
        have fe : ∀ o, o < 58 → hpI h1 (c + 66 + o) = hpI h (c + 66 + o) ∧ hpD h1 (c + 66 + o) = hpD h (c + 66 + o) := fun o ho => F1.2.2.2 _ (by omega)
        have H1 := I1.1.2.2.2.2.2.2.2
        have R21 : RR h1 (c + 66) (4 + p) (nv (rl (4 + p))) (Rc (4 + p)) := rr_eq (fun o _ ho => fe o (by omega)) R2
        obtain ⟨h2, e2, F2, R3⟩ := r_copies H1 (show 4 + p < 9 by omega) (show s < 9 by omega) (by omega) jn R21 va2.2.2.2.2.1 va2.2.2.2.2.2.1
        refine ⟨_, h1, h2, rfl, ?_, ?_⟩
        · rw [ro_ck H1, Option.bind_some, r_isRun_ok I1 hs, bnd_some, if_neg (by decide), in3_ok hp, bnd_some, if_pos (by decide), ro_g24 H1, Option.bind_some, ro_a24 H1 hp, Option.bind_some, (fe 23 (by omega)).1, mp, ee, if_pos rfl, if_pos (by decide), ro_ck H1, Option.bind_some, show (4 : Int32) + nI p = nI (4 + p) by rw [li4, ni_add], e2, bnd_some]
        · exact sl_done (ig_mono (b' := b + 1) (by omega) I1) (by omega) (fun _ => hs) he hl2 F2 (me_sd (fun o _ ho => fe o (by omega)) sd2) al2 R3 (CR1 _ _ jn C2) (va2.mono (by omega) (by omega)) (by rw [rf1]; exact r02)
    · refine ⟨-1, h, h, ?_, ?_, Ib⟩
      · by_cases q : p1 < 0
        · rw [if_pos q]
        · rw [if_neg q, if_neg (show ¬ p1 < 4 from Int32.not_lt.mpr (hv.resolve_left q))]
      · rw [ro_ck H, Option.bind_some, r_isRun_ok I hs, bnd_some, if_neg (by decide), in3_no hv, bnd_some, if_neg (by decide)]
  · simp only [xo_ck X, Option.bind_some, c_runAt_no I hv, bnd_some]
    rw [if_pos trivial]
    refine ⟨_, h, h, rfl, ?_, Ib⟩
    rw [ro_ck H, Option.bind_some, r_isRun_no I hv, bnd_some, if_pos rfl]
theorem r_value35 {h : Hp} {m l n ns N s q : Nat} {A : RecT} (X : SX h m l n ns N) (hs : s < 9) (R : RR h m s n A) (hl : A.1 14 0 = nI l) (nt : Nm (A.2 24 0)) (cx : ∀ i, i < n → Cv (A.2 29 i)) (hq : q < N) : ∃ h', f_X9_value_35 fuelN (some m) (nI s) (nI q) 0 h = some (tell (nvR h m l N (A.2 24 0) (A.2 29) q), h') ∧ Fs h h' m 8 := by
  obtain ⟨H, L, s1, s2, s3⟩ := id X
  have hl8 := L.1
  have hN := L.2.1
  have hn := L.2.2.2.1
  have e1 := L.2.2.2.2.1
  obtain ⟨r1, r2, r3, r4, r5, r6, r7, r8, r9⟩ := id R
  have := row_loop (fun fuel i hh => f_X9_value_35 fuel (some m) (nI s) (nI q) i hh) (h := h) (dst := m + 54) (n := n) (E := A.2 29) (old := hpD h (m + 54)) (res := some (tell (nvR h m l N (A.2 24 0) (A.2 29) q), rwD (rwD h (m + 54) (rowU n (A.2 29) (hpD h (m + 54)))) (m + 44) (nvS (wR (rwD h (m + 54) (rowU n (A.2 29) (hpD h (m + 54)))) m l (A.2 24 0) (hpD (rwD h (m + 54) (rowU n (A.2 29) (hpD h (m + 54)))) (m + 54))) N (hpD (rwD h (m + 54) (rowU n (A.2 29) (hpD h (m + 54)))) (m + 44))))) (by omega) ?_ ?_
  · rw [rwD_self] at this
    exact ⟨_, this, (fs_wk 8 _ (by omega)).trans (fs_wk 8 _ (by omega))⟩
  · intro fuel i hi
    have H' := H.rwD (m + 54) (rowU i (A.2 29) (hpD h (m + 54)))
    rw [f_X9_value_35, ro_g0 H', Option.bind_some, ro_g15 H', Option.bind_some, ro_a15 H' hs, Option.bind_some, hpI_rwD, r1 14 (by omega) (by omega), hl, ro_a0 H' hl8, Option.bind_some, hpI_rwD, e1, if_neg (show ¬ nI n ≤ nI i by rw [ni_le (by omega) (by omega)]; omega), ro_g56 H', Option.bind_some, ro_g30 H', Option.bind_some, li6, ni_mul, ni_add, ro_a30 H' (by omega), Option.bind_some, hpD_rwD_ne (by omega), r6 i hi, ro_s56 H' (by omega), Option.bind_some, rwD_stD, rowU_s, li1, ni_add]
  · intro fuel
    have H' := H.rwD (m + 54) (rowU n (A.2 29) (hpD h (m + 54)))
    have LE' : LE h (rwD h (m + 54) (rowU n (A.2 29) (hpD h (m + 54)))) m := (fs_wk s _ (by omega)).2.1
    have X' := le_SX LE' X
    rw [f_X9_value_35, ro_g0 H', Option.bind_some, ro_g15 H', Option.bind_some, ro_a15 H' hs, Option.bind_some, hpI_rwD, r1 14 (by omega) (by omega), hl, ro_a0 H' hl8, Option.bind_some, hpI_rwD, e1, if_pos (show nI n ≤ nI n from (ni_le (by omega) (by omega)).mpr (Nat.le_refl _)), Option.bind_some, ro_a15 H' hs, Option.bind_some, hpI_rwD, r1 14 (by omega) (by omega), hl, ro_g25 H', Option.bind_some, ro_a25 H' hs, Option.bind_some, hpD_rwD_ne (by omega), r3 24 (by omega) (by omega), ro_g56 H', Option.bind_some, ro_ck H', Option.bind_some]
    rw [r_all (st := m + 54) H' X'.2.1 X'.2.2.1 X'.2.2.2.1 (ro_k56 H') (by omega) (Or.inl nt) (fun j hj => by rw [hpD_rwD_self, rowU_lt hj]; exact cx j hj), bnd_some]
    have H2 := H'.rwD (m + 44) (nvS (wR (rwD h (m + 54) (rowU n (A.2 29) (hpD h (m + 54)))) m l (A.2 24 0) (hpD (rwD h (m + 54) (rowU n (A.2 29) (hpD h (m + 54)))) (m + 54))) N (hpD (rwD h (m + 54) (rowU n (A.2 29) (hpD h (m + 54)))) (m + 44)))
    rw [ro_g46 H2, Option.bind_some, ro_a46 H2 (by omega), Option.bind_some, hpD_rwD_self, r_bits, bnd_some]
    rw [nvR_dep X'.2.1 X'.2.2.1 (y := A.2 29) (fun j hj => by rw [hpD_rwD_self, rowU_lt hj]) _ q hq, le_nvR LE']
theorem op_value {b : Nat} {h : Hp} {c : Nat} (I0 : INV b h c) (p0 p1 : Int32) : ∃ a h1 h2, f_X8_value c p0 p1 h = some (a, h1) ∧ f_X9_value (c + 66) p0 p1 h1 = some (a, h2) ∧ INV (b + 1) h2 c := by
  have Ib := inv_mono (b' := b + 1) (by omega) I0
  obtain ⟨nl, ns, nr, Lw, nv, nn, Ob, ex, rl, Rc, τ, I⟩ := I0
  have X := I.1.1
  have te := I.1.2.1
  have H := I.1.2.2.2.2.2.2.2
  have nr4 := I.2.1.2.2.1
  unfold f_X8_value f_X9_value f_X8_value_21 f_X9_value_29
  rcases in_cases p0 (N := nr) (by omega) with ⟨s, hs, rfl⟩ | hv
  · obtain ⟨s4, he, hl, si, W⟩ := sl I hs
    have B := W.2.1
    obtain ⟨hn, hn1, hN, l8, e1, e3, en, eN, -⟩ := wr_nv W
    obtain ⟨sd, al, R, C, va, r0⟩ := si
    have rl' := rr_l R al
    have b1 := (I.2.2.2.2.2.2.2.2.2.2.2.2 s (by omega) he)
    have bl := (I.2.2.2.2.2.2.2.2.2.2.1 _ hl)
    have b11 := b1.1
    have bl1 := bl.1
    have dj := bk_dj b1 bl (by have := I.2.1.1; omega) (by omega) (by omega)
    simp only [xo_ck X, Option.bind_some, c_runAt_ok I hs, bnd_some]
    rw [if_neg (show ¬ some (Ob s) = none by simp), rb_g0 B, Option.bind_some, r0, lo_ck W.1.2.1, Option.bind_some]
    rcases in_cases p1 (N := nn (rl s)) (by omega) with ⟨q, hq, rfl⟩ | hv
    · obtain ⟨h1, er, F1, E1, v1⟩ := c_reckonNodes (E' := q + 1) (t := (Rc s).2 24 0) W.1 (rb_rw B) W.2.2.1 (by omega) va.2.2.2.2.2.2.1.1 (show ¬ Pn (c + 1) (Lw (rl s)) (Ob s + 1 + 1) by unfold Pn; omega) (show ¬ Pn (c + 1) (Lw (rl s)) (Ob s + 1 + 2) by unfold Pn; omega)
      have F1x : Fx (Pn (c + 1) (Lw (rl s))) (fun _ => False) h h1 := F1.fx
      have np : ∀ a, a < c + 124 → a ≠ c + 1 → ¬ Pn (c + 1) (Lw (rl s)) a := fun a h1 h2 z => by unfold Pn at z; omega
      have I1 := ig_scr I hl F1x (fun a z => by unfold Pn at z; omega) (fun a z => z.elim) E1.1 E1.2.2.2.2.2.1 (fr_S0 F1 I.1.2.2.2.1) (sn_fx F1x (fun a h1 h2 => np a (by omega) (by omega)) I.1.2.2.2.2.1) (fr_S0 F1 I.1.2.2.2.2.2.1) (sn_fx F1x (fun a h1 h2 => np a (by omega) (by omega)) I.1.2.2.2.2.2.2.1)
      have X1 := I1.1.1
      have te1 := I1.1.2.1
      have H1 := I1.1.2.2.2.2.2.2.2
      obtain ⟨-, -, -, si1, W1⟩ := sl I1 hs
      have R1 := si1.2.2.1
      have me : ME h h1 (c + 66) := fun o _ ho => F1.2.2.2 _ (np _ (by omega) (by omega))
      obtain ⟨h2, e2, F2⟩ := r_value35 E1.2.2.1 (show s < 9 by omega) R1 al va.2.2.2.2.2.2.1.1 va.2.2.2.2.2.2.2.2.2.2.2.2.1 hq
      rw [hasN_ok W.1.2.1 eN hq hN, bnd_some, if_pos (by decide), rb_g0 B, Option.bind_some, r0, rb_gd B, Option.bind_some, rb_g2 B, Option.bind_some, lo_ck W.1.2.1, Option.bind_some, (cr_h C).1, show nI q + 1 = nI (q + 1) by rw [li1, ni_add], er, bnd_some, xo_g1 X1, Option.bind_some, rb_g0 W1.2.1, Option.bind_some, W1.2.2.2.2.2, lo_g13 W1.1.2.1, Option.bind_some, xo_tk X1, Option.bind_some, c_told X1 te1 (lo_rw W1.1.2.1) E1.2.2.2.2.2.1 (show q < 48 by omega) (by omega), bnd_some, v1 q (by omega)]
      refine ⟨_, h1, h2, rfl, ?_, ⟨nl, ns, nr, Lw, nv, nn, Ob, ex, rl, Rc, τ, ig_mono (by omega) (ig_fs I1 (Or.inr rfl) (by omega) F2)⟩⟩
      rw [ro_ck H1, Option.bind_some, r_isRun_ok I1 hs, bnd_some, if_neg (by decide), ro_g2 H1, Option.bind_some, ro_g15 H1, Option.bind_some, ro_a15 H1 (by omega), Option.bind_some, rr_l R1 al, ro_a2 H1 l8, Option.bind_some, (me 3 (by omega) (by omega)).1, e3, r_in_ok hq (by omega), bnd_some, if_pos (by decide), e2, me_nvR me]
      have dp := nvR_dep (t := (Rc s).2 24 0) W.1.2.2.1.2.1 W.1.2.2.1.2.2.1 (fun j hj => (cr_x C j hj).symm) (fun _ => 0) q hq
      rw [← dp]
      rfl
    · rw [hasN_no W.1.2.1 eN hv, bnd_some, if_neg (by decide)]
      refine ⟨_, h, h, rfl, ?_, Ib⟩
      rw [ro_ck H, Option.bind_some, r_isRun_ok I hs, bnd_some, if_neg (by decide), ro_g2 H, Option.bind_some, ro_g15 H, Option.bind_some, ro_a15 H (by omega), Option.bind_some, rl', ro_a2 H l8, Option.bind_some, e3, r_in_no (by omega) hv, bnd_some, if_neg (by decide)]
  · simp only [xo_ck X, Option.bind_some, c_runAt_no I hv, bnd_some]
    rw [if_pos trivial]
    refine ⟨_, h, h, rfl, ?_, Ib⟩
    rw [ro_ck H, Option.bind_some, r_isRun_no I hv, bnd_some, if_pos rfl]
