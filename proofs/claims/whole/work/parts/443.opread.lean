/-! ===== calls that only tell ===== -/
theorem sl {b : Nat} {h : Hp} {c nl ns nr : Nat} {Lw nv nn Ob : Nat → Nat} {ex : Nat → Bool} {rl : Nat → Nat} {Rc : Nat → RecT} {τ : Nat → Nat} (I : IG b h c 9 nl ns nr Lw nv nn Ob ex rl Rc τ) {s : Nat} (hs : s < nr) : s < 4 ∧ ex s = true ∧ rl s < nl ∧ SI b h c s (Ob s) (rl s) (Lw (rl s)) (nv (rl s)) (nn (rl s)) (Rc s) ∧ WR h (c + 66) (rl s) (nv (rl s)) ns (nn (rl s)) (c + 1) (Lw (rl s)) (c + 5) (Ob s) := by
  have I' := I
  obtain ⟨i1, i2, i3, i4, i5, i6, i7, i8, i9⟩ := I
  have s4 : s < 4 := by have := i2.2.2.1; omega
  have he := (i8 s s4).1.mpr hs
  obtain ⟨hl, si⟩ := i7 s (by omega) he (by omega)
  exact ⟨s4, he, hl, si, ig_wr I' (by omega) he (by omega)⟩
theorem sk {b : Nat} {h : Hp} {c nl ns nr : Nat} {Lw nv nn Ob : Nat → Nat} {ex : Nat → Bool} {rl : Nat → Nat} {Rc : Nat → RecT} {τ : Nat → Nat} (I : IG b h c 9 nl ns nr Lw nv nn Ob ex rl Rc τ) {s : Nat} (hs : s < 8) (he : ex s = true) : rl s < nl ∧ SI b h c s (Ob s) (rl s) (Lw (rl s)) (nv (rl s)) (nn (rl s)) (Rc s) ∧ WR h (c + 66) (rl s) (nv (rl s)) ns (nn (rl s)) (c + 1) (Lw (rl s)) (c + 5) (Ob s) := by
  have I' := I
  obtain ⟨i1, i2, i3, i4, i5, i6, i7, i8, i9⟩ := I
  obtain ⟨hl, si⟩ := i7 s hs he (by omega)
  exact ⟨hl, si, ig_wr I' (by omega) he (by omega)⟩
theorem wr_nv {h : Hp} {m l n ns N k L sg r : Nat} (W : WR h m l n ns N k L sg r) : n ≤ 6 ∧ 1 ≤ n ∧ N ≤ 48 ∧ l < 8 ∧ hpI h (m + 1) l = nI n ∧ hpI h (m + 3) l = nI N ∧ hpI h L 1 = nI n ∧ hpI h L 10 = nI N ∧ RO h m :=
  ⟨W.1.2.2.1.2.1.2.2.2.1, W.1.2.2.1.2.1.2.2.1, W.1.2.2.1.2.1.2.1, W.1.2.2.1.2.1.1, W.1.2.2.1.2.1.2.2.2.2.1, W.1.2.2.1.2.1.2.2.2.2.2.1, W.1.2.2.2.1.2.1, W.1.2.2.2.1.2.2.2.1, W.1.2.2.1.1⟩
theorem rr_l {h : Hp} {m s n l : Nat} {A : RecT} (R : RR h m s n A) (e : A.1 14 0 = nI l) : hpI h (m + 14) s = nI l := by rw [R.1 14 (by omega) (by omega), e]
theorem xo_g1 {h : Hp} {c : Nat} (X : XO h c) : getR h (some c) 8 1 = some (some (c + 2)) := by rw [getR_ok X.1, X.2.2.1]
theorem op_state {b : Nat} {h : Hp} {c : Nat} (I : INV b h c) (p0 p1 : Int32) : ∃ a h1 h2, f_X8_state c p0 p1 h = some (a, h1) ∧ f_X9_state (c + 66) p0 p1 h1 = some (a, h2) ∧ INV (b + 1) h2 c := by
  have I0 := inv_mono (b' := b + 1) (by omega) I
  obtain ⟨nl, ns, nr, Lw, nv, nn, Ob, ex, rl, Rc, τ, I⟩ := I
  have X := I.1.1
  have te := I.1.2.1
  have H := I.1.2.2.2.2.2.2.2
  have nr4 := I.2.1.2.2.1
  unfold f_X8_state f_X9_state f_X8_state_21 f_X9_state_46 f_X9_state_49
  rcases in_cases p0 (N := nr) (by omega) with ⟨s, hs, rfl⟩ | hv
  · obtain ⟨s4, he, hl, si, W⟩ := sl I hs
    obtain ⟨hn, hn1, hN, l8, e1, e3, en, eN, -⟩ := wr_nv W
    have B := W.2.1
    have r0 := W.2.2.2.2.2
    have rl' := rr_l si.2.2.1 si.2.1
    simp only [xo_ck X, Option.bind_some, c_runAt_ok I hs, bnd_some, rb_g0 B, r0, lo_ck W.1.2.1]
    rw [if_neg (by simp)]
    rcases in_cases p1 (N := nv (rl s)) (by omega) with ⟨i, hi, rfl⟩ | hv
    · rw [hasV_ok W.1.2.1 en hi hn, bnd_some, if_pos (by decide)]
      simp only [xo_g1 X, Option.bind_some, rb_g2 B, xo_tk X, c_told X te (rb_rw B) W.2.2.1 (show i < 6 by omega) (by omega), bnd_some]
      refine ⟨_, h, h, rfl, ?_, I0⟩
      rw [ro_ck H, Option.bind_some, r_isRun_ok I hs, bnd_some, if_neg (by decide), ro_g0 H, Option.bind_some, ro_g15 H, Option.bind_some, ro_a15 H (by omega), Option.bind_some, rl', ro_a0 H l8, Option.bind_some, e1, r_in_ok hi (by omega), bnd_some, if_neg (by decide), ro_g30 H, Option.bind_some, li6, ni_mul, ni_add, ro_a30 H (by omega), Option.bind_some, r_bits, bnd_some, cr_x si.2.2.2.1 i hi, si.2.2.1.2.2.2.2.2.1 i hi]
    · rw [hasV_no W.1.2.1 en hv, bnd_some, if_neg (by decide)]
      refine ⟨9221120237041090560, h, h, rfl, ?_, I0⟩
      rw [ro_ck H, Option.bind_some, r_isRun_ok I hs, bnd_some, if_neg (by decide), ro_g0 H, Option.bind_some, ro_g15 H, Option.bind_some, ro_a15 H (by omega), Option.bind_some, rl', ro_a0 H l8, Option.bind_some, e1, r_in_no (by omega) hv, bnd_some, if_pos rfl]
  · refine ⟨9221120237041090560, h, h, ?_, ?_, I0⟩
    · rw [xo_ck X, Option.bind_some, c_runAt_no I hv, bnd_some, if_pos rfl]
    · rw [ro_ck H, Option.bind_some, r_isRun_no I hv, bnd_some, if_pos rfl]
theorem tell_eq {a b : UInt64} (e : a = b) : tell a = tell b := by rw [e]
theorem op_clock {b : Nat} {h : Hp} {c : Nat} (I : INV b h c) (p0 p1 : Int32) : ∃ a h1 h2, f_X8_clock c p0 p1 h = some (a, h1) ∧ f_X9_clock (c + 66) p0 p1 h1 = some (a, h2) ∧ INV (b + 1) h2 c := by
  have I0 := inv_mono (b' := b + 1) (by omega) I
  obtain ⟨nl, ns, nr, Lw, nv, nn, Ob, ex, rl, Rc, τ, I⟩ := I
  have X := I.1.1
  have te := I.1.2.1
  have H := I.1.2.2.2.2.2.2.2
  have nr4 := I.2.1.2.2.1
  rcases in_cases p0 (N := nr) (by omega) with ⟨s, hs, rfl⟩ | hv
  · obtain ⟨s4, he, hl, si, W⟩ := sl I hs
    have B := W.2.1
    obtain ⟨-, -, R, C, va, -⟩ := si
    obtain ⟨v1, v2, v3, v4, v5, v6, v7, v8, v9, v10, v11, v12, -⟩ := va
    have kS := (rb_s0 B).1
    suffices z : ∃ a, f_X8_clock c (nI s) p1 h = some (a, h) ∧ f_X9_clock (c + 66) (nI s) p1 h = some (a, h) by
      obtain ⟨a, z1, z2⟩ := z
      exact ⟨a, h, h, z1, z2, I0⟩
    unfold f_X8_clock f_X9_clock
    simp only [xo_ck X, Option.bind_some, c_runAt_ok I hs, bnd_some, ro_ck H, r_isRun_ok I hs]
    rw [if_pos (show ¬ some (Ob s) = none by simp), if_pos (show ¬ (1 : Int32) = 0 by decide)]
    by_cases q : p1.toInt < 0 ∨ 3 < p1.toInt
    · rw [if_pos q, if_pos q]
      exact ⟨_, rfl, rfl⟩
    · rw [if_neg q, if_neg q]
      by_cases q0 : p1 = 0
      · rw [if_pos q0, if_pos q0]
        simp only [xo_g1 X, Option.bind_some, rb_gd B, xo_tk X, (cr_h C).1, c_bits X te v7.1, bnd_some, ro_g25 H, ro_a25 H (show s < 9 by omega), r_bits, R.2.2.1 24 (by omega) (by omega)]
        exact ⟨_, rfl, rfl⟩
      · rw [if_neg q0, if_neg q0]
        by_cases q1 : p1 = 1
        · rw [if_pos q1, if_pos q1]
          simp only [xo_g1 X, Option.bind_some, rb_gd B, xo_tk X, (cr_h C).2.2.1, c_bits X te v8.fn.nm, bnd_some, ro_g26 H, ro_a26 H (show s < 9 by omega), r_bits, R.2.2.1 25 (by omega) (by omega)]
          exact ⟨_, rfl, rfl⟩
        · rw [if_neg q1, if_neg q1]
          by_cases q2 : p1 = 2
          · rw [if_pos q2, if_pos q2]
            have ce : hpD h (Ob s + 12) 12 = (Rc s).2 28 0 := C.2.2.2.2.2.2.2.2.2.2.2.2.2.1
            simp only [xo_g1 X, Option.bind_some, rb_g11 B, getD_ok kS, xo_tk X, ce, c_bits X te v11, bnd_some, ro_g29 H, ro_a29 H (show s < 9 by omega), r_bits, R.2.2.1 28 (by omega) (by omega)]
            exact ⟨_, rfl, rfl⟩
          · rw [if_neg q2, if_neg q2]
            have q3 : p1 = 3 := by
              apply Int32.toInt.inj
              have n0 : p1.toInt ≠ 0 := fun e => q0 (Int32.toInt.inj e)
              have n1 : p1.toInt ≠ 1 := fun e => q1 (Int32.toInt.inj e)
              have n2 : p1.toInt ≠ 2 := fun e => q2 (Int32.toInt.inj e)
              have : (3 : Int32).toInt = 3 := by decide
              omega
            rw [if_pos q3, if_pos q3]
            have ce : hpD h (Ob s + 12) 4 = (Rc s).2 38 0 := C.2.2.2.2.2.2.2.2.2.2.2.2.2.2.2.1
            simp only [xo_g1 X, Option.bind_some, rb_g11 B, getD_ok kS, xo_tk X, ce, c_bits X te v12.fn.nm, bnd_some, ro_g39 H, ro_a39 H (show s < 9 by omega), r_bits, R.2.2.2.2.1]
            exact ⟨_, rfl, rfl⟩
  · unfold f_X8_clock f_X9_clock
    refine ⟨9221120237041090560, h, h, ?_, ?_, I0⟩
    · rw [xo_ck X, Option.bind_some, c_runAt_no I hv, bnd_some, if_neg (by simp)]
    · rw [ro_ck H, Option.bind_some, r_isRun_no I hv, bnd_some, if_neg (by decide)]
theorem op_count {b : Nat} {h : Hp} {c : Nat} (I : INV b h c) (p0 p1 : Int32) : ∃ a h1 h2, f_X8_count c p0 p1 h = some (a, h1) ∧ f_X9_count (c + 66) p0 p1 h1 = some (a, h2) ∧ INV (b + 1) h2 c := by
  have I0 := inv_mono (b' := b + 1) (by omega) I
  obtain ⟨nl, ns, nr, Lw, nv, nn, Ob, ex, rl, Rc, τ, I⟩ := I
  have X := I.1.1
  have H := I.1.2.2.2.2.2.2.2
  have nr4 := I.2.1.2.2.1
  rcases in_cases p0 (N := nr) (by omega) with ⟨s, hs, rfl⟩ | hv
  · obtain ⟨s4, he, hl, si, W⟩ := sl I hs
    have B := W.2.1
    obtain ⟨-, al, R, C, va, r0⟩ := si
    have kS := (rb_s0 B).1
    have kL := W.1.2.1.1
    suffices z : ∃ a, f_X8_count c (nI s) p1 h = some (a, h) ∧ f_X9_count (c + 66) (nI s) p1 h = some (a, h) by
      obtain ⟨a, z1, z2⟩ := z
      exact ⟨a, h, h, z1, z2, I0⟩
    unfold f_X8_count f_X9_count f_X8_count_103 f_X9_count_105
    simp only [xo_ck X, Option.bind_some, c_runAt_ok I hs, bnd_some, ro_ck H, r_isRun_ok I hs]
    rw [if_pos (show ¬ some (Ob s) = none by simp), if_pos (show ¬ (1 : Int32) = 0 by decide)]
    by_cases q : p1.toInt < 0 ∨ 7 < p1.toInt
    · rw [if_pos q, if_pos q]
      exact ⟨_, rfl, rfl⟩
    · rw [if_neg q, if_neg q]
      by_cases q0 : p1 = 0
      · rw [if_pos q0, if_pos q0]
        simp only [ro_g15 H, Option.bind_some, ro_a15 H (show s < 9 by omega), rb_g0 B, r0, getI_ok kL, W.1.2.2.2.1.1, rr_l R al]
        exact ⟨_, rfl, rfl⟩
      rw [if_neg q0, if_neg q0]
      by_cases q1 : p1 = 1
      · rw [if_pos q1, if_pos q1]
        simp only [ro_g16 H, Option.bind_some, ro_a16 H (show s < 9 by omega), rb_gi B, (cr_h C).2.1, R.1 15 (by omega) (by omega)]
        exact ⟨_, rfl, rfl⟩
      rw [if_neg q1, if_neg q1]
      by_cases q2 : p1 = 2
      · rw [if_pos q2, if_pos q2]
        simp only [ro_g18 H, Option.bind_some, ro_a18 H (show s < 9 by omega), rb_gi B, (cr_h C).2.2.2.2.2.2.1, R.1 17 (by omega) (by omega)]
        exact ⟨_, rfl, rfl⟩
      rw [if_neg q2, if_neg q2]
      by_cases q3 : p1 = 3
      · rw [if_pos q3, if_pos q3]
        simp only [ro_g19 H, Option.bind_some, ro_a19 H (show s < 9 by omega), rb_gi B, (cr_h C).2.2.2.2.2.2.2, R.1 18 (by omega) (by omega)]
        exact ⟨_, rfl, rfl⟩
      rw [if_neg q3, if_neg q3]
      by_cases q4 : p1 = 4
      · rw [if_pos q4, if_pos q4]
        have ce : hpI h (Ob s + 12) 13 = (Rc s).1 19 0 := C.2.2.2.2.2.2.2.2.2.2.2.2.2.2.1
        simp only [ro_g20 H, Option.bind_some, ro_a20 H (show s < 9 by omega), rb_g11 B, getI_ok kS, ce, R.1 19 (by omega) (by omega)]
        exact ⟨_, rfl, rfl⟩
      rw [if_neg q4, if_neg q4]
      by_cases q5 : p1 = 5
      · rw [if_pos q5, if_pos q5]
        simp only [ro_g22 H, Option.bind_some, ro_a22 H (show s < 9 by omega), rb_gi B, (cr_h C).2.2.2.2.2.1, R.1 21 (by omega) (by omega)]
        by_cases z : (Rc s).1 21 0 = 0
        · rw [if_pos z]; exact ⟨_, rfl, rfl⟩
        · rw [if_neg z]; exact ⟨_, rfl, rfl⟩
      rw [if_neg q5, if_neg q5]
      by_cases q6 : p1 = 6
      · rw [if_pos q6, if_pos q6]
        simp only [ro_g17 H, Option.bind_some, ro_a17 H (show s < 9 by omega), rb_g10 B, rb_ei B, (cr_ev C).1, R.1 16 (by omega) (by omega)]
        exact ⟨_, rfl, rfl⟩
      rw [if_neg q6, if_neg q6]
      have q7 : p1 = 7 := by
        apply Int32.toInt.inj
        have n0 : p1.toInt ≠ 0 := fun e => q0 (Int32.toInt.inj e)
        have n1 : p1.toInt ≠ 1 := fun e => q1 (Int32.toInt.inj e)
        have n2 : p1.toInt ≠ 2 := fun e => q2 (Int32.toInt.inj e)
        have n3 : p1.toInt ≠ 3 := fun e => q3 (Int32.toInt.inj e)
        have n4 : p1.toInt ≠ 4 := fun e => q4 (Int32.toInt.inj e)
        have n5 : p1.toInt ≠ 5 := fun e => q5 (Int32.toInt.inj e)
        have n6 : p1.toInt ≠ 6 := fun e => q6 (Int32.toInt.inj e)
        have : (7 : Int32).toInt = 7 := by decide
        omega
      rw [if_pos q7, if_pos q7]
      simp only [ro_g21 H, Option.bind_some, ro_a21 H (show s < 9 by omega), rb_g10 B, rb_ei B, (cr_ev C).2.1, R.1 20 (by omega) (by omega)]
      exact ⟨_, rfl, rfl⟩
  · unfold f_X8_count f_X9_count f_X8_count_103 f_X9_count_105
    refine ⟨-1, h, h, ?_, ?_, I0⟩
    · rw [xo_ck X, Option.bind_some, c_runAt_no I hv, bnd_some, if_neg (by simp)]
    · rw [ro_ck H, Option.bind_some, r_isRun_no I hv, bnd_some, if_neg (by decide)]
