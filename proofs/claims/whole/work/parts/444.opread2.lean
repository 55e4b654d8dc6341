theorem op_ro {α : Type} {b : Nat} {h : Hp} {c : Nat} (I : INV b h c) {f g : Hp → Option (α × Hp)} (z : ∃ a, f h = some (a, h) ∧ g h = some (a, h)) : ∃ a h1 h2, f h = some (a, h1) ∧ g h1 = some (a, h2) ∧ INV (b + 1) h2 c := by
  obtain ⟨a, z1, z2⟩ := z
  exact ⟨a, h, h, z1, z2, inv_mono (by omega) I⟩
theorem op_fired {b : Nat} {h : Hp} {c : Nat} (I0 : INV b h c) (p0 p1 p2 : Int32) : ∃ a h1 h2, f_X8_fired c p0 p1 p2 h = some (a, h1) ∧ f_X9_fired (c + 66) p0 p1 p2 h1 = some (a, h2) ∧ INV (b + 1) h2 c := by
  apply op_ro I0
  obtain ⟨nl, ns, nr, Lw, nv, nn, Ob, ex, rl, Rc, τ, I⟩ := I0
  have X := I.1.1
  have te := I.1.2.1
  have H := I.1.2.2.2.2.2.2.2
  have nr4 := I.2.1.2.2.1
  unfold f_X8_fired f_X9_fired f_X8_fired_24 f_X9_fired_37 f_X8_fired_72 f_X9_fired_74
  rcases in_cases p0 (N := nr) (by omega) with ⟨s, hs, rfl⟩ | hv
  · obtain ⟨s4, he, hl, si, W⟩ := sl I hs
    have B := W.2.1
    obtain ⟨-, al, R, C, va, r0⟩ := si
    have fn := va.2.2.2.2.2.2.2.2.2.2.2.2.2.1
    simp only [xo_ck X, Option.bind_some, c_runAt_ok I hs, bnd_some, ro_ck H, r_isRun_ok I hs, rb_g10 B, rb_ec B]
    rw [if_neg (show ¬ some (Ob s) = none by simp), if_neg (show ¬ (1 : Int32) = 0 by decide)]
    unfold f_X0_hasFired f_X0_hasFired_22 f_X0_hasFired_23
    by_cases q0 : p1 < 0
    · rw [if_pos q0, if_pos q0, if_pos (by decide), bnd_some, if_neg (by decide)]
      exact ⟨_, rfl, rfl⟩
    · rw [if_neg q0, if_neg q0]
      simp only [rb_ei B, Option.bind_some, ro_g21 H, ro_a21 H (show s < 9 by omega), (cr_ev C).2.1, R.1 20 (by omega) (by omega)]
      by_cases q1 : (Rc s).1 20 0 ≤ p1
      · rw [if_pos q1, if_pos q1, if_pos (by decide), bnd_some, if_neg (by decide)]
        exact ⟨_, rfl, rfl⟩
      · rw [if_neg q1, if_neg q1]
        by_cases q2 : 64 ≤ p1
        · rw [if_pos q2, if_pos q2, if_pos (by decide), bnd_some, if_neg (by decide)]
          exact ⟨_, rfl, rfl⟩
        · rw [if_neg q2, if_neg q2, if_pos (by decide), bnd_some, if_pos (by decide)]
          obtain ⟨k, hk, rfl⟩ := ni_of3 (n := 64) (x := p1) (by omega) (Int32.not_lt.mp q0) (Int32.not_le.mp q2)
          have e7 : aldI h (some (Ob s + 10)) 11 (nI k) = some ((Rc s).1 34 k) := by rw [aldI_ok (rb_k10 B) (ni_in hk (by omega)), ni_cl (by omega), (C.2.2.2.2.2.2.2.2.2.2.2.2.1 k hk).1]
          have e8 : aldD h (some (Ob s + 11)) (nI k) = some ((Rc s).2 35 k) := by rw [aldD_ok (rb_k11 B) (ni_in hk (by omega)), ni_cl (by omega), (C.2.2.2.2.2.2.2.2.2.2.2.2.1 k hk).2]
          have ix : (64 : Int32) * nI s + nI k = nI (64 * s + k) := by rw [li64, ni_mul, ni_add]
          have R8 := R.2.2.2.2.2.2.2.1 k hk
          rw [r_in, bnd_some]
          by_cases z0 : p2 = 0
          · subst z0
            rw [if_neg (by decide), if_pos (by decide), if_neg (by decide)]
            simp only [rb_g10 B, Option.bind_some, rb_e7 B, e7, ro_g35 H, ix, ro_a35 H (show 64 * s + k < 576 by omega), R8.1]
            exact ⟨_, rfl, rfl⟩
          · rw [if_pos z0]
            by_cases z1 : p2 = 1
            · subst z1
              rw [if_neg (by decide), if_pos (by decide), if_pos (by decide)]
              simp only [rb_g10 B, xo_g1 X, Option.bind_some, rb_e8 B, e8, xo_tk X, c_bits X te (fn k hk), bnd_some, ro_g36 H, ix, ro_a36 H (show 64 * s + k < 576 by omega), R8.2, r_bits]
              exact ⟨_, rfl, rfl⟩
            · rw [if_pos z1, if_neg (show ¬ (0 ≤ p2 ∧ p2 ≤ 1) by
                rintro ⟨w1, w2⟩
                rw [Int32.le_iff_toInt_le] at w1 w2
                have n0 : p2.toInt ≠ 0 := fun e => z0 (Int32.toInt.inj e)
                have n1 : p2.toInt ≠ 1 := fun e => z1 (Int32.toInt.inj e)
                have e0 : (0 : Int32).toInt = 0 := by decide
                have e1 : (1 : Int32).toInt = 1 := by decide
                omega), if_neg (by decide)]
              exact ⟨_, rfl, rfl⟩
  · simp only [xo_ck X, Option.bind_some, c_runAt_no I hv, bnd_some, ro_ck H, r_isRun_no I hv]
    rw [if_pos trivial, if_pos trivial]
    exact ⟨_, rfl, rfl⟩
theorem op_many {b : Nat} {h : Hp} {c : Nat} (I0 : INV b h c) (p0 : Int32) : ∃ a h1 h2, f_X8_many c p0 h = some (a, h1) ∧ f_X9_many (c + 66) p0 h1 = some (a, h2) ∧ INV (b + 1) h2 c := by
  apply op_ro I0
  obtain ⟨nl, ns, nr, Lw, nv, nn, Ob, ex, rl, Rc, τ, I⟩ := I0
  have X := I.1.1
  have H := I.1.2.2.2.2.2.2.2
  obtain ⟨c1, c2, c3, c4, c5, c6, c7, c8, c9⟩ := I.2.1
  unfold f_X8_many f_X9_many f_X8_many_10 f_X8_many_61 f_X9_many_69
  rcases in_cases p0 (N := 11) (by omega) with ⟨k, hk, rfl⟩ | hv
  · rw [if_neg (by rw [li0, ni_lt (by omega) (by omega)]; omega), if_pos (by rw [li10, ni_le (by omega) (by omega)]; omega), r_in, bnd_some, if_pos (show 0 ≤ nI k ∧ nI k ≤ 10 by rw [li0, li10, ni_le (by omega) (by omega), ni_le (by omega) (by omega)]; omega), if_pos (show ¬ (1 : Int32) = 0 by decide)]
    simp only [getI_ok X.1, getI_ok (ro_K H), Option.bind_some, c4, c5, c6, c7, c8, c9, ro_g2 H]
    by_cases q0 : k = 0
    · subst q0
      rw [if_neg (by decide), if_neg (by decide)]
      exact ⟨_, rfl, rfl⟩
    rw [if_pos (show ¬ nI k = 0 by rw [li0, ni_eq (by omega) (by omega)]; omega), if_pos (show ¬ nI k = 0 by rw [li0, ni_eq (by omega) (by omega)]; omega)]
    by_cases q1 : k = 1
    · subst q1
      rw [if_neg (by decide), if_neg (by decide)]
      exact ⟨_, rfl, rfl⟩
    rw [if_pos (show ¬ nI k = 1 by rw [li1, ni_eq (by omega) (by omega)]; omega), if_pos (show ¬ nI k = 1 by rw [li1, ni_eq (by omega) (by omega)]; omega)]
    by_cases q2 : k = 2
    · subst q2
      rw [if_neg (by decide), if_neg (by decide)]
      exact ⟨_, rfl, rfl⟩
    rw [if_pos (show ¬ nI k = 2 by rw [li2, ni_eq (by omega) (by omega)]; omega), if_pos (show ¬ nI k = 2 by rw [li2, ni_eq (by omega) (by omega)]; omega)]
    rw [show nI k - 3 = nI (k - 3) by rw [li3, ni_sub (by omega)]]
    rw [xo_ck X, Option.bind_some]
    by_cases z : k - 3 < nl
    · obtain ⟨l1, l2, l3, l4, l5, l6⟩ := I.2.2.1 _ z
      rw [c_lawAt_ok I z, bnd_some, if_pos (by simp), getI_ok l2.1, Option.bind_some, if_neg (by rw [ni_le (by omega) (by omega)]; omega), ro_a2 H (by omega), Option.bind_some, l3.2.2.2.2.2.1, l4.2.2.2.1]
      exact ⟨_, rfl, rfl⟩
    · rw [c_lawAt_no I (Or.inr (by rw [ni_le (by omega) (by omega)]; omega)), bnd_some, if_neg (by simp), if_pos (by rw [ni_le (by omega) (by omega)]; omega)]
      exact ⟨_, rfl, rfl⟩
  · have hn : ¬ (0 ≤ p0 ∧ p0 ≤ 10) := by
      rintro ⟨w1, w2⟩
      rcases hv with v | v
      · exact absurd v (Int32.not_lt.mpr w1)
      · rw [Int32.le_iff_toInt_le] at v w2
        rw [ni_toInt (by omega)] at v
        have : (10 : Int32).toInt = 10 := by decide
        omega
    rw [r_in, bnd_some, if_neg hn, if_neg (show ¬ ¬ (0 : Int32) = 0 by decide)]
    refine ⟨-1, ?_, rfl⟩
    by_cases q : p0 < 0
    · rw [if_pos q]
    · rw [if_neg q, if_neg (fun w => hn ⟨Int32.not_lt.mp q, w⟩)]
theorem r93 {h : Hp} {m s i M k : Nat} (H : RO h m) (hs : s < 9) (hi : i < 6) (hM : M ≤ 6) (hk : k < 6) : f_X9_stage_93 (some m) (nI s) (nI k) (nI i) (nI M) (nI (sgN M)) h = some (if (1 ≤ k ∧ k ≤ sgN M) ∨ (M = 4 ∧ k = 5) then tell (hpD h (m + 43) (5 * (6 * s + i) + (k - 1))) else 9221120237041090560, h) := by
  have sg := sgN_le M
  have yes : 1 ≤ k → f_X9_stage_116 (some m) (nI s) (nI k) (nI i) h = some (tell (hpD h (m + 43) (5 * (6 * s + i) + (k - 1))), h) := fun k1 => by
    unfold f_X9_stage_116 f_X9_stage_121 f_X9_stage_154
    rw [if_neg (by decide), ro_g44 H, Option.bind_some, show (5 : Int32) * (6 * nI s + nI i) + nI k - 1 = nI (5 * (6 * s + i) + (k - 1)) by rw [li5, li6, li1, ni_mul, ni_add, ni_mul, ni_add, ni_sub (by omega)]; congr 1; omega, ro_a44 H (by omega), Option.bind_some, r_bits, bnd_some]
  have no : f_X9_stage_120 (some m) (nI s) (nI k) (nI i) h = some (9221120237041090560, h) := by
    unfold f_X9_stage_120 f_X9_stage_121 f_X9_stage_154
    rw [if_pos rfl]
  unfold f_X9_stage_93
  rw [r_in, bnd_some]
  by_cases q : 1 ≤ k ∧ k ≤ sgN M
  · rw [if_pos (show 1 ≤ nI k ∧ nI k ≤ nI (sgN M) by rw [li1, ni_le (by omega) (by omega), ni_le (by omega) (by omega)]; exact q), if_pos (by decide), if_pos (Or.inl q), yes q.1]
  · rw [if_neg (show ¬ (1 ≤ nI k ∧ nI k ≤ nI (sgN M)) by rw [li1, ni_le (by omega) (by omega), ni_le (by omega) (by omega)]; exact q), if_neg (by decide)]
    by_cases q4 : M = 4
    · rw [if_neg (show ¬ ¬ nI M = 4 by rw [li4, ni_eq (by omega) (by omega)]; omega)]
      by_cases q5 : k = 5
      · rw [if_neg (show ¬ ¬ nI k = 5 by rw [li5, ni_eq (by omega) (by omega)]; omega), if_pos (Or.inr ⟨q4, q5⟩), yes (by omega)]
      · rw [if_pos (show ¬ nI k = 5 by rw [li5, ni_eq (by omega) (by omega)]; omega), if_neg (by omega), no]
    · rw [if_pos (show ¬ nI M = 4 by rw [li4, ni_eq (by omega) (by omega)]; omega), if_neg (by omega), no]
theorem r93n {h : Hp} {m s i M : Nat} {v : Int32} (hM : M ≤ 6) (hv : v < 0 ∨ nI 6 ≤ v) : f_X9_stage_93 (some m) (nI s) v (nI i) (nI M) (nI (sgN M)) h = some (9221120237041090560, h) := by
  have sg := sgN_le M
  have n1 : ¬ (1 ≤ v ∧ v ≤ nI (sgN M)) := by
    rintro ⟨w1, w2⟩
    rw [Int32.le_iff_toInt_le] at w1 w2
    rw [ni_toInt (by omega)] at w2
    have : (1 : Int32).toInt = 1 := by decide
    have : (0 : Int32).toInt = 0 := by decide
    rcases hv with q | q
    · rw [Int32.lt_iff_toInt_lt] at q; omega
    · rw [Int32.le_iff_toInt_le, ni_toInt (by omega)] at q; omega
  have n5 : ¬ v = 5 := by rintro rfl; revert hv; decide
  unfold f_X9_stage_93 f_X9_stage_120 f_X9_stage_121 f_X9_stage_154
  rw [r_in, bnd_some, if_neg n1, if_neg (by decide), if_pos n5, if_pos rfl]
  split <;> rfl
theorem r_disp {h : Hp} {m : Nat} {a v i : Int32} {M : Nat} (hM : M ≤ 6) : (if ¬ nI M = 0 then
          if nI M = 1 then
            f_X9_stage_71 (some m) a v i (nI M) h
          else
            if ¬ nI M = 5 then
              if nI M = 2 then
                f_X9_stage_88 (some m) a v i (nI M) h
              else
                if ¬ nI M = 6 then
                  f_X9_stage_93 (some m) a v i (nI M) 4 h
                else
                  f_X9_stage_88 (some m) a v i (nI M) h
            else
              f_X9_stage_71 (some m) a v i (nI M) h
        else
          f_X9_stage_93 (some m) a v i (nI M) 1 h) = f_X9_stage_93 (some m) a v i (nI M) (nI (sgN M)) h := by
  unfold f_X9_stage_71 f_X9_stage_88
  rcases (by omega : M = 0 ∨ M = 1 ∨ M = 2 ∨ M = 3 ∨ M = 4 ∨ M = 5 ∨ M = 6) with rfl | rfl | rfl | rfl | rfl | rfl | rfl
  · rw [if_neg (by decide)]; rfl
  · rw [if_pos (by decide), if_pos (by decide)]; rfl
  · rw [if_pos (by decide), if_neg (by decide), if_pos (by decide), if_pos (by decide)]; rfl
  · rw [if_pos (by decide), if_neg (by decide), if_pos (by decide), if_neg (by decide), if_pos (by decide)]; rfl
  · rw [if_pos (by decide), if_neg (by decide), if_pos (by decide), if_neg (by decide), if_pos (by decide)]; rfl
  · rw [if_pos (by decide), if_neg (by decide), if_neg (by decide)]; rfl
  · rw [if_pos (by decide), if_neg (by decide), if_pos (by decide), if_neg (by decide), if_neg (by decide)]; rfl
theorem stg_ok {M : Nat} (hM : M ≤ 6) : stg (nI M) = some (nI (sgN M)) := by
  have := (by decide : ∀ i : Fin 7, stg (nI i.1) = some (nI (sgN i.1))) ⟨M, by omega⟩
  exact this
theorem op_stage {b : Nat} {h : Hp} {c : Nat} (I0 : INV b h c) (hb : b ≤ 64) (p0 p1 p2 : Int32) : ∃ a h1 h2, f_X8_stage c p0 p1 p2 h = some (a, h1) ∧ f_X9_stage (c + 66) p0 p1 p2 h1 = some (a, h2) ∧ INV (b + 1) h2 c := by
  apply op_ro I0
  obtain ⟨nl, ns, nr, Lw, nv, nn, Ob, ex, rl, Rc, τ, I⟩ := I0
  have X := I.1.1
  have te := I.1.2.1
  have H := I.1.2.2.2.2.2.2.2
  have nr4 := I.2.1.2.2.1
  unfold f_X8_stage f_X9_stage f_X8_stage_32 f_X9_stage_38
  rcases in_cases p0 (N := nr) (by omega) with ⟨s, hs, rfl⟩ | hv
  · obtain ⟨s4, he, hl, si, W⟩ := sl I hs
    have B := W.2.1
    obtain ⟨hn, hn1, hN, l8, e1, e3, en, eN, -⟩ := wr_nv W
    obtain ⟨-, al, R, C, va, r0⟩ := si
    have rl' := rr_l R al
    have kS := (rb_s0 B).1
    have S0' := rb_s0 B
    have Sn := W.2.2.2.1
    simp only [xo_ck X, Option.bind_some, c_runAt_ok I hs, bnd_some, ro_ck H, r_isRun_ok I hs, rb_g0 B, r0, lo_ck W.1.2.1, ro_g0 H, ro_g15 H, ro_a15 H (show s < 9 by omega), rl', ro_a0 H l8, e1]
    rw [if_neg (show ¬ some (Ob s) = none by simp), if_neg (show ¬ (1 : Int32) = 0 by decide)]
    rcases in_cases p2 (N := nv (rl s)) (by omega) with ⟨i, hi, rfl⟩ | hv
    · simp only [hasV_ok W.1.2.1 en hi hn, bnd_some, r_in_ok hi (show nv (rl s) < 1000 by omega)]
      rw [if_neg (show ¬ (1 : Int32) = 0 by decide), if_neg (show ¬ (1 : Int32) = 0 by decide)]
      simp only [rb_gi B, (cr_h C).2.2.2.2.2.2.1, Option.bind_some, ro_g23 H, ro_a23 H (show s < 9 by omega), R.1 22 (by omega) (by omega), rb_g11 B, getI_ok kS]
      obtain ⟨tk, t1, t2, t3⟩ := va.2.2.1
      rcases va.2.2.2.2.2.1 with st | st
      · have tk0 : tk = 0 := by
          have : ¬ 0 < tk := fun z => absurd (t3.mpr z) (by rw [st]; decide)
          omega
        rw [st, t1, tk0, if_neg (by decide), if_neg (by decide)]
        exact ⟨_, rfl, rfl⟩
      · have tk0 : ¬ (Rc s).1 17 0 = 0 := by
          rw [t1]
          intro z
          have b1 := t3.mp st
          rw [li0, ni_eq (by omega) (by omega)] at z
          omega
        rw [if_pos tk0, st, if_pos (show ¬ (1 : Int32) = 0 by decide)]
        obtain ⟨⟨M, eM, hM⟩, -, va9⟩ := va.2.2.2.2.2.2.2.2.2.2.2.2.2.2 st
        obtain ⟨d1, d2, d3, d4, d5, d6⟩ := cr_st C st
        obtain ⟨g1, g2, g3⟩ := R.2.2.2.2.2.2.2.2 st
        have tM : tc ((Rc s).1 36 0) = M := by rw [eM]; exact ni_cl (by omega)
        rw [tM] at d5 d6 g2 g3
        simp only [d2, eM, ro_g37 H, Option.bind_some, ro_a37 H (show s < 9 by omega), R.2.1]
        rw [r_disp hM]
        unfold f_X8_stage_74 f_X8_stage_89
        rw [stg_ok hM]
        have sg := sgN_le M
        rcases in_cases p1 (N := 6) (by omega) with ⟨k, hk, rfl⟩ | hv
        · rw [r93 H (by omega) (by omega) hM hk]
          by_cases z : k = 5 ∧ M = 4
          · obtain ⟨rfl, rfl⟩ := z
            rw [if_neg (by decide), if_neg (by decide)]
            simp only [xo_g1 X, Option.bind_some, rb_g11 B, s0_g10 S0', xo_tk X, c_told X te (s0_r S0' i23) (Sn 23 i23) (show i < 6 by omega) (by omega), bnd_some]
            refine ⟨_, rfl, ?_⟩
            rw [if_pos (by simp), d6 rfl i hi, ← g3 rfl i hi]
          · have st74 : (if nI k < 1 then some ((9221120237041090560 : Int64), h) else (some (nI (sgN M))).bind fun x2 => if nI k ≤ x2 then (getR h (some c) 8 1).bind fun x4 => (getR h (some (Ob s)) 4 11).bind fun x5 => (getR h x5 6 9).bind fun x6 => (aldR h x6 14 (nI k - 1)).bind fun x7 => (ab_ck h x4 (7, 0)).bind fun a11 => bnd (f_X7_told a11 x7 (nI i) h) fun x8 h9 => some (x8, h9) else some (9221120237041090560, h)) = some (if (1 ≤ k ∧ k ≤ sgN M) ∨ (M = 4 ∧ k = 5) then tell (hpD h (c + 66 + 43) (5 * (6 * s + i) + (k - 1))) else 9221120237041090560, h) := by
              by_cases w : 1 ≤ k ∧ k ≤ sgN M
              · rw [if_neg (by rw [li1, ni_lt (by omega) (by omega)]; omega), Option.bind_some, if_pos (by rw [ni_le (by omega) (by omega)]; omega), if_pos (Or.inl w), show nI k - 1 = nI (k - 1) by rw [li1, ni_sub (by omega)]]
                have kk := isr_k (show k - 1 < 4 by omega)
                simp only [xo_g1 X, Option.bind_some, rb_g11 B, s0_g9 S0', s0_k S0' (show k - 1 < 4 by omega), xo_tk X, c_told X te (s0_r S0' kk) (Sn _ kk) (show i < 6 by omega) (by omega), bnd_some]
                rw [d5 (k - 1) (by omega) i hi, ← g2 (k - 1) (by omega) i hi]
              · rw [if_neg (show ¬ ((1 ≤ k ∧ k ≤ sgN M) ∨ (M = 4 ∧ k = 5)) by omega)]
                by_cases u : k = 0
                · subst u; rw [if_pos (by decide)]
                · rw [if_neg (by rw [li1, ni_lt (by omega) (by omega)]; omega), Option.bind_some, if_neg (by rw [ni_le (by omega) (by omega)]; omega)]
            rw [st74]
            refine ⟨_, ?_, rfl⟩
            by_cases u : k = 5
            · rw [if_neg (show ¬ ¬ nI k = 5 by rw [li5, ni_eq (by omega) (by omega)]; omega), if_pos (show ¬ nI M = 4 by rw [li4, ni_eq (by omega) (by omega)]; omega)]
            · rw [if_pos (show ¬ nI k = 5 by rw [li5, ni_eq (by omega) (by omega)]; omega)]
        · rw [r93n hM hv]
          refine ⟨_, ?_, rfl⟩
          have n5 : ¬ p1 = 5 := by rintro rfl; revert hv; decide
          rw [if_pos n5]
          by_cases w : p1 < 1
          · rw [if_pos w]
          · rw [if_neg w, Option.bind_some, if_neg]
            intro w2
            rw [Int32.le_iff_toInt_le, ni_toInt (by omega)] at w2
            rw [Int32.lt_iff_toInt_lt] at w
            have : (1 : Int32).toInt = 1 := by decide
            have : (0 : Int32).toInt = 0 := by decide
            rcases hv with q | q
            · rw [Int32.lt_iff_toInt_lt] at q; omega
            · rw [Int32.le_iff_toInt_le, ni_toInt (by omega)] at q; omega
    · simp only [hasV_no W.1.2.1 en hv, bnd_some, r_in_no (show nv (rl s) < 1000 by omega) hv]
      rw [if_pos trivial, if_pos trivial]
      exact ⟨_, rfl, rfl⟩
  · simp only [xo_ck X, Option.bind_some, c_runAt_no I hv, bnd_some, ro_ck H, r_isRun_no I hv]
    rw [if_pos trivial, if_pos trivial]
    exact ⟨_, rfl, rfl⟩
