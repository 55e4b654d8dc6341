theorem r_fires_179 {h : Hp} {m s n l j : Nat} {A : RecT} {act : Int32} (H : RO h m) (hs : s < 9) (hj : j < 4) (hn1 : 1 ≤ n) (hn : n ≤ 6) (R : RR h m s n A) :
    ∃ h', f_X9_fires_179 (some m) (nI s) (nI j) act (nI n) h = some ((), h') ∧ Fs h h' m s ∧ RR h' m s n (fi5 A n act (A.1 33 j)) ∧ hpI h' = hpI h ∧ (∀ a, a ≠ m + 29 → hpD h' a = hpD h a) := by
  obtain ⟨r1, r2, r3, r4, r5, r6, r7, r8, r9⟩ := id R
  unfold f_X9_fires_179 fi5
  by_cases q : act = 2
  · rw [if_pos q, if_pos q, li4, ni_mul, ni_add, ro_g34 H, Option.bind_some, ro_a34 H (by omega), Option.bind_some, r7 33 (by omega) (by omega) j hj, li6, ni_mul]
    have go : ∀ k, k < n → ∃ h', f_X9_fires_220 (some m) (nI k) (nI (6 * s)) h = some ((), h') ∧ Fs h h' m s ∧ RR h' m s n (uD A 29 (up1 (A.2 29) k (cn (FP.dneg (A.2 29 k))))) ∧ hpI h' = hpI h ∧ (∀ a, a ≠ m + 29 → hpD h' a = hpD h a) := by
      intro k hk
      unfold f_X9_fires_220
      rw [ni_add, ro_g30 H, Option.bind_some, Option.bind_some, ro_a30 H (by omega), Option.bind_some, r_turned, bnd_some, ro_s30 H (by omega), Option.bind_some, r6 k hk]
      exact ⟨_, rfl, fs_stD _ (by omega), rr_X _ (by omega) R, rfl, fun a ha => hpD_stD_row ha⟩
    have w0 : ∀ v : Int32, v < 0 → fiw n v = 0 := fun v hv => by unfold fiw; rw [if_pos hv]
    by_cases v0 : A.1 33 j < 0
    · rw [if_pos v0, w0 _ v0]
      exact go 0 (by omega)
    · rw [if_neg v0]
      by_cases v1 : nI n ≤ A.1 33 j
      · rw [if_pos v1]
        have : fiw n (A.1 33 j) = 0 := by unfold fiw; rw [if_neg v0, if_pos v1]
        rw [this]
        exact go 0 (by omega)
      · rw [if_neg v1]
        obtain ⟨k, hk, ek⟩ := ni_of3 (n := n) (by omega) (Int32.not_lt.mp v0) (Int32.not_le.mp v1)
        have : fiw n (A.1 33 j) = k := by unfold fiw; rw [if_neg v0, if_neg v1, ek]; exact ni_cl (by omega)
        rw [this, ek]
        exact go k hk
  · rw [if_neg q, if_neg q]
    exact ⟨h, rfl, Fs.refl h m s, R, rfl, fun _ _ => rfl⟩
theorem r_fires_166 {h : Hp} {m s n j : Nat} {A : RecT} {act : Int32} (H : RO h m) (hs : s < 9) (hj : j < 4) (hn1 : 1 ≤ n) (hn : n ≤ 6) (R : RR h m s n A) :
    ∃ h', f_X9_fires_166 (some m) (nI s) (nI j) act (nI n) h = some ((), h') ∧ Fs h h' m s ∧ RR h' m s n (fi5 (fi4 A act) n act (A.1 33 j)) ∧ hpI h' (m + 57) = hpI h (m + 57) ∧ (∀ a, a ≠ m + 29 → hpD h' a = hpD h a) := by
  unfold f_X9_fires_166 fi4
  by_cases q : act = 1
  · rw [if_neg (fun z => z q), if_pos q, ro_g22 H, Option.bind_some, ro_s22 H hs, Option.bind_some, nar1]
    have H1 : RO (stI h (m + 21) s 1) m := H
    obtain ⟨h2, e2, F2, R2, i2, d2⟩ := r_fires_179 (l := 0) (act := act) H1 hs hj hn1 hn (rr_I1 1 (by omega) (by omega) R)
    rw [e2]
    refine ⟨h2, rfl, (fs_stI _ (by omega)).trans F2, ?_, ?_, d2⟩
    · rw [uI_1, if_neg (by omega)] at R2
      exact R2
    · rw [i2, hpI_stI_row (by omega)]
  · rw [if_pos q, if_neg q]
    obtain ⟨h2, e2, F2, R2, i2, d2⟩ := r_fires_179 (l := 0) (act := act) H hs hj hn1 hn R
    exact ⟨h2, e2, F2, R2, by rw [i2], d2⟩
theorem r_fires_121 {h0 : Hp} {m s n l ns N j : Nat} {A : RecT} {act : Int32} {hi : UInt64} (W : VS h0 m s n l ns N A) {h : Hp} (F : Fs h0 h m s) (R : RR h m s n A) (hj : j < 4) (hhi : hpD h (m + 56) j = hi) (sb : SB hi) :
    ∃ h', f_X9_fires_121 fuelN (some m) (nI s) (nI j) (thS A hi) act (nI n) 0 h = some ((), h') ∧ Fs h0 h' m s ∧ RR h' m s n (fi5 (fi4 (uD (uD A 29 (cuS A (hpI h0 (m + 2) l) hi)) 24 (fun _ => thS A hi)) act) n act (A.1 33 j)) ∧ hpI h' (m + 57) = hpI h (m + 57) ∧ hpD h' (m + 56) = hpD h (m + 56) := by
  have hs := W.2.1
  have hn1 := W.1.2.1.2.2.1
  have hn := W.1.2.1.2.2.2.1
  have hl8 := W.1.2.1.1
  generalize hE : cuS A (hpI h0 (m + 2) l) hi = E
  obtain ⟨h1, e1, F1, R1, i1, d1⟩ := loop_rel (fun fuel i hh => f_X9_fires_121 fuel (some m) (nI s) (nI j) (thS A hi) act (nI n) i hh) (fun i h1 => Fs h0 h1 m s ∧ RR h1 m s n (uD A 29 (rowU i E (A.2 29))) ∧ hpI h1 = hpI h ∧ (∀ a, a ≠ m + 29 → hpD h1 a = hpD h a)) (n := n) (res := fun h => f_X9_fires_166 (some m) (nI s) (nI j) act (nI n) (stD h (m + 24) s (thS A hi))) (by omega) (by
      rintro fuel i h1 hi' ⟨p1, p2, p3, p4⟩
      have H1 := le_RO p1.2.1 W.1.1
      have W1 : VS h0 m s n l ns N (uD A 29 (rowU i E (A.2 29))) := vs_dep W rfl rfl (fun k hk => by rw [uD_2, if_neg (by omega)])
      have ec : cuS (uD A 29 (rowU i E (A.2 29))) (hpI h1 (m + 2) l) hi i = E i := by
        rw [cuS_dep (A := A) (fun k hk => by rw [uD_2, if_neg (by omega)]), le_nar p1.2.1, hE]
      refine ⟨stD h1 (m + 29) (6 * s + i) (E i), ?_, p1.trans (fs_stD _ (by omega)), ?_, p3, fun a ha => by rw [hpD_stD_row ha, p4 a ha]⟩
      · rw [f_X9_fires_121, if_neg (show ¬ nI n ≤ nI i by rw [ni_le (by omega) (by omega)]; omega), ro_g30 H1, Option.bind_some, ro_g58 H1, Option.bind_some, ro_a58 H1 hj, Option.bind_some, p4 _ (by omega), hhi, ro_ck H1, Option.bind_some, r_cubic H1 hs p2 W1.2.2.1 W1.2.2.2.1 hl8 W1.2.2.2.2.1 hi' hn sb, bnd_some, ec, li6, ni_mul, ni_add, ro_s30 H1 (by omega), Option.bind_some, li1, ni_add]
      · have := rr_X (E i) (show i < 6 by omega) p2
        rw [uD_2, if_pos rfl, rowU_s] at this
        have e3 : uD (uD A 29 (rowU i E (A.2 29))) 29 (rowU (i + 1) E (A.2 29)) = uD A 29 (rowU (i + 1) E (A.2 29)) := by
          unfold uD
          simp only [Prod.mk.injEq, true_and]
          funext q
          by_cases z : q = 29 <;> simp [z]
        rw [e3] at this
        exact this) (by
      rintro fuel h1 ⟨p1, -⟩
      have H1 := le_RO p1.2.1 W.1.1
      rw [f_X9_fires_121, if_pos (show nI n ≤ nI n from (ni_le (by omega) (by omega)).mpr (Nat.le_refl _)), ro_g25 H1, Option.bind_some, ro_s25 H1 hs, Option.bind_some]) h ⟨F, by
      have e3 : uD A 29 (rowU 0 E (A.2 29)) = A := by
        rw [rowU_0]; unfold uD
        obtain ⟨A1, A2⟩ := A
        simp only [Prod.mk.injEq, true_and]
        funext q
        by_cases z : q = 29 <;> simp [z]
      rw [e3]; exact R, rfl, fun _ _ => rfl⟩
  rw [e1]
  have H1 := le_RO F1.2.1 W.1.1
  have R2 := rr_D1 (o := 24) (thS A hi) (by omega) (by omega) (rr_xs (g := E) (fun i hi => rowU_lt hi) R1)
  have H2 : RO (stD h1 (m + 24) s (thS A hi)) m := H1
  obtain ⟨h3, e3, F3, R3, i3, d3⟩ := r_fires_166 (act := act) H2 hs hj hn1 hn R2
  refine ⟨h3, e3, (F1.trans (fs_stD _ (by omega))).trans F3, R3, ?_, ?_⟩
  · rw [i3, hpI_stD, i1]
  · rw [d3 _ (by omega), hpD_stD_row (by omega), d1 _ (by omega)]
theorem r_fires {h0 h : Hp} {m s n l ns N j f : Nat} {A : RecT} {hi : UInt64} (W : VS h0 m s n l ns N A) (F : Fs h0 h m s) (R : RR h m s n A) (hj : j < 4) (hhi : hpD h (m + 56) j = hi) (sb : SB hi) (hf : A.1 20 0 = nI f) (hf2 : f < 1000000) :
    ∃ h', f_X9_fires m (nI s) (nI j) h = some ((), h') ∧ Fs h0 h' m s ∧ RR h' m s n (fiS A (hpI h0 (m + 2) l) n j hi) ∧ hpI h' (m + 57) = hpI h (m + 57) ∧ hpD h' (m + 56) = hpD h (m + 56) := by
  have hs := W.2.1
  have hn1 := W.1.2.1.2.2.1
  have hn := W.1.2.1.2.2.2.1
  have hl8 := W.1.2.1.1
  have ev := W.1.2.1.2.2.2.2.1
  have H := le_RO F.2.1 W.1.1
  obtain ⟨r1, r2, r3, r4, r5, r6, r7, r8, r9⟩ := id R
  have sa := sb_all sb W.2.2.2.2.1
  have ntv : Nm (thS A hi) := add_nm2 W.2.2.2.2.2.1 sa.2.2.2.2.1
  have x20 := r1 20 (by omega) (by omega)
  -- behind the firing's own row
  have key : ∀ (h1 : Hp) (B : RecT), Fs h0 h1 m s → RR h1 m s n B → (∀ k, k ≠ 34 → B.1 k = A.1 k) → (∀ k, k ≠ 35 → B.2 k = A.2 k) → hpI h1 (m + 57) = hpI h (m + 57) → hpD h1 (m + 56) = hpD h (m + 56) → B = fi1 A j hi →
      ∃ h', f_X9_fires_66 (some m) (nI s) (nI j) (thS A hi) h1 = some ((), h') ∧ Fs h0 h' m s ∧ RR h' m s n (fiS A (hpI h0 (m + 2) l) n j hi) ∧ hpI h' (m + 57) = hpI h (m + 57) ∧ hpD h' (m + 56) = hpD h (m + 56) := by
    intro h1 B F1 R1 b1 b2 c1 c2' eB
    have H1 := le_RO F1.2.1 W.1.1
    obtain ⟨t1, t2, t3, t4, t5, t6, t7, t8, t9⟩ := id R1
    have y20 : hpI h1 (m + 20) s = A.1 20 0 := by rw [t1 20 (by omega) (by omega), b1 20 (by omega)]
    unfold f_X9_fires_66
    rw [ro_g21 H1, Option.bind_some, ro_a21 H1 hs, Option.bind_some, ro_s21 H1 hs, Option.bind_some, y20]
    have R2 := rr_I1 (o := 20) (A.1 20 0 + 1) (by omega) (by omega) R1
    have F2 : Fs h0 (stI h1 (m + 20) s (A.1 20 0 + 1)) m s := F1.trans (fs_stI _ (by omega))
    have H2 : RO (stI h1 (m + 20) s (A.1 20 0 + 1)) m := H1
    have i2 : hpI (stI h1 (m + 20) s (A.1 20 0 + 1)) (m + 57) = hpI h (m + 57) := by rw [hpI_stI_row (by omega), c1]
    have d2 : hpD (stI h1 (m + 20) s (A.1 20 0 + 1)) (m + 56) = hpD h (m + 56) := c2'
    have eC : uI B 20 (fun _ => A.1 20 0 + 1) = fi2 (fi1 A j hi) := by unfold fi2; rw [← eB, b1 20 (by omega)]
    rw [eC] at R2
    generalize stI h1 (m + 20) s (A.1 20 0 + 1) = h2 at R2 F2 H2 i2 d2 ⊢
    obtain ⟨u1, u2, u3, u4, u5, u6, u7, u8, u9⟩ := id R2
    have k1 : ∀ k, k ≠ 34 → k ≠ 20 → (fi2 (fi1 A j hi)).1 k = A.1 k := fun k h1 h2 => by rw [fi2_1 h2, fi1_1 h1]
    have k2 : ∀ k, k ≠ 35 → (fi2 (fi1 A j hi)).2 k = A.2 k := fun k h1 => by show (fi1 A j hi).2 k = _; rw [fi1_2 h1]
    have x32 := u7 32 (by omega) (by omega) j hj
    rw [k1 32 (by omega) (by omega)] at x32
    have x14 := u1 14 (by omega) (by omega)
    rw [k1 14 (by omega) (by omega), W.2.2.2.1] at x14
    have W2 : VS h0 m s n l ns N (fi2 (fi1 A j hi)) := vs_dep W (k1 22 (by omega) (by omega)) (k1 14 (by omega) (by omega)) (fun k hk => k2 k (by omega))
    rw [ro_g33 H2, Option.bind_some, li4, ni_mul, ni_add, ro_a33 H2 (by omega), Option.bind_some, x32]
    unfold fiS
    by_cases q : A.1 32 j = 0
    · rw [if_neg (fun z => z q), if_pos q]
      exact ⟨h2, rfl, F2, R2, i2, d2⟩
    · rw [if_pos q, if_neg q, ro_g0 H2, Option.bind_some, ro_g15 H2, Option.bind_some, ro_a15 H2 hs, Option.bind_some, x14, ro_a0 H2 hl8, Option.bind_some, le_var F2.2.1, ev, ro_g58 H2, Option.bind_some, ro_a58 H2 hj, Option.bind_some, d2, hhi]
      unfold fi3
      by_cases q2 : cl hi FP.dconst1 = 0
      · rw [if_pos q2, if_pos q2]
        obtain ⟨h3, e3, F3, R3, i3, d3⟩ := r_fires_166 (act := A.1 32 j) H2 hs hj hn1 hn R2
        rw [k1 33 (by omega) (by omega)] at R3
        exact ⟨h3, e3, F2.trans F3, R3, by rw [i3, i2], by rw [d3 _ (by omega), d2]⟩
      · rw [if_neg q2, if_neg q2]
        have eth : thS (fi2 (fi1 A j hi)) hi = thS A hi := by unfold thS; rw [k2 37 (by omega), k2 38 (by omega)]
        obtain ⟨h3, e3, F3, R3, i3, d3⟩ := r_fires_121 (act := A.1 32 j) W2 F2 R2 hj (by rw [d2]; exact hhi) sb
        rw [eth] at e3 R3
        rw [k1 33 (by omega) (by omega)] at R3
        rw [eth]
        exact ⟨h3, e3, F3, R3, by rw [i3, i2], by rw [d3, d2]⟩
  unfold f_X9_fires
  rw [ro_g38 H, Option.bind_some, ro_a38 H hs, Option.bind_some, r4, ro_g58 H, Option.bind_some, ro_a58 H hj, Option.bind_some, hhi, ro_g39 H, Option.bind_some, ro_a39 H hs, Option.bind_some, r5, fop_ok sa.2.2.2.2.1.nm, Option.bind_some, show FP.dadd (A.2 37 0) (FP.dmul hi (A.2 38 0)) = thS A hi from rfl, fop_ok ntv, Option.bind_some, ro_g21 H, Option.bind_some, ro_a21 H hs, Option.bind_some, x20]
  by_cases q : 64 ≤ A.1 20 0
  · rw [if_pos q]
    exact key h A F R (fun _ _ => rfl) (fun _ _ => rfl) rfl rfl (by unfold fi1; rw [if_pos q])
  · rw [if_neg q]
    have hf64 : f < 64 := by
      rw [hf, show (64 : Int32) = nI 64 from rfl, ni_le (by omega) (by omega)] at q
      omega
    have tcf : tc (A.1 20 0) = f := by rw [hf]; exact ni_cl (by omega)
    rw [ro_g35 H, Option.bind_some, Option.bind_some, ro_a21 H hs, Option.bind_some, x20, hf, show (64 : Int32) = nI 64 from rfl, ni_mul, ni_add, ro_s35 H (by omega), Option.bind_some]
    have H1 : RO (stI h (m + 34) (64 * s + f) (nI j)) m := H
    have y20 : hpI (stI h (m + 34) (64 * s + f) (nI j)) (m + 20) s = nI f := by rw [hpI_stI_ne (Or.inl (by omega)), x20, hf]
    rw [ro_g36 H1, Option.bind_some, ro_g21 H1, Option.bind_some, ro_a21 H1 hs, Option.bind_some, y20, ni_add, ro_s36 H1 (by omega), Option.bind_some]
    refine key (stD (stI h (m + 34) (64 * s + f) (nI j)) (m + 35) (64 * s + f) (thS A hi)) _ ((F.trans (fs_stI _ (by omega))).trans (fs_stD _ (by omega))) (rr_F (nI j) (thS A hi) hf64 R) (fun k hk => by rw [uD_1, uI_1, if_neg hk]) (fun k hk => by rw [uD_2, if_neg hk, uI_2]) (by rw [hpI_stD, hpI_stI_row (by omega)]) (by rw [hpD_stD_row (by omega), hpD_stI]) ?_
    unfold fi1
    rw [if_neg q, tcf]
