theorem r_goes_249 {h : Hp} {m s l n ns N no : Nat} {hf off endv : UInt64} {v15 : Int32} {z : Nat → UInt64} (X : SX h m l n ns N) (hs : s < 9) (nt : Nm (hpD h (m + 24) s)) (fh : HB hf) (hz : ∀ i, i < n → hpD h (m + 47) i = z i) (hc : ∀ i, i < n → Cv (z i)) (hw : hpI h m 60 = 0 ∨ hpI h m 60 = 1) :
    ∃ h', f_X9_goes_249 (some m) (nI s) endv (nI l) (nI n) (nI no) hf off v15 h = (bnd (f_X9_looksAtEvents m (nI s) h') fun _ h3 => some (nI no, h3)) ∧ Fs h h' m s ∧ hpI h' (m + 22) s = 1 ∧ hpI h' (m + 36) s = hpI h (m + 15) s ∧ hpD h' (m + 37) s = hpD h (m + 24) s ∧ hpD h' (m + 38) s = hf ∧ hpI h' (m + 19) s = hpI h m 61 ∧
      (∀ i, i < n → hpD h' (m + 39) (6 * s + i) = hpD h (m + 45) i ∧ hpD h' (m + 40) (6 * s + i) = hpD h (m + 47) i ∧ hpD h' (m + 41) (6 * s + i) = hpD h (m + 50) i ∧ (∀ j, j < 4 → hpD h' (m + 43) (5 * (6 * s + i) + j) = hpD h (m + 50 + j) i) ∧ hpD h' (m + 43) (5 * (6 * s + i) + 4) = hpD h (m + 49) i ∧ hpD h' (m + 42) (6 * s + i) = fR h m l N (FP.dadd (hpD h (m + 24) s) hf) z i ∧ hpD h' (m + 29) (6 * s + i) = hpD h (m + 47) i) ∧
      hpD h' (m + 28) s = off ∧ hpI h' (m + 17) s = hpI h (m + 17) s + 1 ∧ hpI h' (m + 18) s = hpI h (m + 18) s + nI no ∧ hpD h' (m + 24) s = (if v15 = 0 then FP.dadd (hpD h (m + 24) s) hf else endv) ∧
      (∀ o, 14 ≤ o → o < 44 → o ≠ 22 → o ≠ 36 → o ≠ 19 → o ≠ 17 → o ≠ 18 → hpI h' (m + o) = hpI h (m + o)) ∧ (∀ o, 14 ≤ o → o < 37 → o ≠ 24 → o ≠ 28 → o ≠ 29 → hpD h' (m + o) = hpD h (m + o)) := by
  have hn := X.2.1.2.2.2.1
  have H := X.1
  obtain ⟨h1, e1, F1, a22, a36, a37, a38, a19, aI, oI, oD⟩ := r_keepsStep X hs nt fh hz hc hw
  have R1 := le_RO F1.2.1 H
  unfold f_X9_goes_249
  rw [ro_ck H, Option.bind_some, e1, bnd_some]
  generalize e2 : stD h1 (m + 28) s off = h2
  have R2 : RO h2 m := by rw [← e2]; exact R1
  rw [ro_g29 R1, Option.bind_some, ro_s29 R1 hs, Option.bind_some, e2]
  generalize e3 : stI h2 (m + 17) s (hpI h2 (m + 17) s + 1) = h3
  have R3 : RO h3 m := by rw [← e3]; exact R2
  rw [ro_g18 R2, Option.bind_some, ro_a18 R2 hs, Option.bind_some, ro_s18 R2 hs, Option.bind_some, e3]
  generalize e4 : stI h3 (m + 18) s (hpI h3 (m + 18) s + nI no) = h4
  have R4 : RO h4 m := by rw [← e4]; exact R3
  rw [ro_g19 R3, Option.bind_some, ro_a19 R3 hs, Option.bind_some, ro_s19 R3 hs, Option.bind_some, e4]
  have F2 : Fs h1 h2 m s := by rw [← e2]; exact fs_stD _ (by omega)
  have F3 : Fs h2 h3 m s := by rw [← e3]; exact fs_stI _ (by omega)
  have F4 : Fs h3 h4 m s := by rw [← e4]; exact fs_stI _ (by omega)
  have i2 : hpI h2 = hpI h1 := by rw [← e2]; rfl
  have i3 : ∀ a, a ≠ m + 17 → hpI h3 a = hpI h2 a := fun a ha => by rw [← e3]; exact hpI_stI_row ha
  have i4 : ∀ a, a ≠ m + 18 → hpI h4 a = hpI h3 a := fun a ha => by rw [← e4]; exact hpI_stI_row ha
  have d2 : ∀ a, a ≠ m + 28 → hpD h2 a = hpD h1 a := fun a ha => by rw [← e2]; exact hpD_stD_row ha
  have d4 : hpD h4 = hpD h2 := by rw [← e4, hpD_stI, ← e3, hpD_stI]
  have t4 : hpD h4 (m + 37) s = hpD h (m + 24) s := by rw [d4, d2 _ (by omega), a37]
  have F04 := ((F1.trans F2).trans F3).trans F4
  have key : ∀ tv : UInt64, ∃ h', f_X9_goes_313 (some m) (nI s) (nI n) (nI no) tv (nI s) (some (m + 24)) h4 = (bnd (f_X9_looksAtEvents m (nI s) h') fun _ h3 => some (nI no, h3)) ∧ Fs h h' m s ∧ hpI h' (m + 22) s = 1 ∧ hpI h' (m + 36) s = hpI h (m + 15) s ∧ hpD h' (m + 37) s = hpD h (m + 24) s ∧ hpD h' (m + 38) s = hf ∧ hpI h' (m + 19) s = hpI h m 61 ∧
      (∀ i, i < n → hpD h' (m + 39) (6 * s + i) = hpD h (m + 45) i ∧ hpD h' (m + 40) (6 * s + i) = hpD h (m + 47) i ∧ hpD h' (m + 41) (6 * s + i) = hpD h (m + 50) i ∧ (∀ j, j < 4 → hpD h' (m + 43) (5 * (6 * s + i) + j) = hpD h (m + 50 + j) i) ∧ hpD h' (m + 43) (5 * (6 * s + i) + 4) = hpD h (m + 49) i ∧ hpD h' (m + 42) (6 * s + i) = fR h m l N (FP.dadd (hpD h (m + 24) s) hf) z i ∧ hpD h' (m + 29) (6 * s + i) = hpD h (m + 47) i) ∧
      hpD h' (m + 28) s = off ∧ hpI h' (m + 17) s = hpI h (m + 17) s + 1 ∧ hpI h' (m + 18) s = hpI h (m + 18) s + nI no ∧ hpD h' (m + 24) s = tv ∧
      (∀ o, 14 ≤ o → o < 44 → o ≠ 22 → o ≠ 36 → o ≠ 19 → o ≠ 17 → o ≠ 18 → hpI h' (m + o) = hpI h (m + o)) ∧ (∀ o, 14 ≤ o → o < 37 → o ≠ 24 → o ≠ 28 → o ≠ 29 → hpD h' (m + o) = hpD h (m + o)) := by
    intro tv
    unfold f_X9_goes_313
    generalize e5 : stD h4 (m + 24) s tv = h5
    have R5 : RO h5 m := by rw [← e5]; exact R4
    rw [ro_s25 R4 hs, Option.bind_some, e5]
    have F5 : Fs h4 h5 m s := by rw [← e5]; exact fs_stD _ (by omega)
    have i5 : hpI h5 = hpI h4 := by rw [← e5]; rfl
    have d5 : ∀ a, a ≠ m + 24 → hpD h5 a = hpD h4 a := fun a ha => by rw [← e5]; exact hpD_stD_row ha
    obtain ⟨h6, e6, F6, i6, d6, x6⟩ := r_goes_317 (no := nI no) R5 hs hn
    rw [e6]
    have dd : ∀ a, a ≠ m + 24 → a ≠ m + 28 → a ≠ m + 29 → hpD h6 a = hpD h1 a := fun a q1 q2 q3 => by rw [d6 a q3, d5 a q1, d4, d2 a q2]
    have ii : ∀ a, a ≠ m + 17 → a ≠ m + 18 → hpI h6 a = hpI h1 a := fun a q1 q2 => by rw [i6, i5, i4 a q2, i3 a q1, i2]
    refine ⟨h6, rfl, (F04.trans F5).trans F6, ?_, ?_, ?_, ?_, ?_, fun i hi => ?_, ?_, ?_, ?_, ?_, fun o q1 q2 q3 q4 q5 q6 q7 => ?_, fun o q1 q2 q3 q4 q5 => ?_⟩
    · rw [ii _ (by omega) (by omega), a22]
    · rw [ii _ (by omega) (by omega), a36]
    · rw [dd _ (by omega) (by omega) (by omega), a37]
    · rw [dd _ (by omega) (by omega) (by omega), a38]
    · rw [ii _ (by omega) (by omega), a19]
    · obtain ⟨b1, b2, b3, b4, b5, b6⟩ := aI i hi
      refine ⟨?_, ?_, ?_, fun j hj => ?_, ?_, ?_, ?_⟩
      · rw [dd _ (by omega) (by omega) (by omega), b1]
      · rw [dd _ (by omega) (by omega) (by omega), b2]
      · rw [dd _ (by omega) (by omega) (by omega), b3]
      · rw [dd _ (by omega) (by omega) (by omega), b4 j hj]
      · rw [dd _ (by omega) (by omega) (by omega), b5]
      · rw [dd _ (by omega) (by omega) (by omega), b6]
      · rw [x6 i hi, d5 _ (by omega), d4, d2 _ (by omega), b2]
    · rw [d6 _ (by omega), d5 _ (by omega), d4, ← e2, hpD_stD_self]
    · rw [i6, i5, i4 _ (by omega), ← e3, hpI_stI_self, i2, oI 17 (by omega) (by omega) (by omega) (by omega) (by omega)]
    · rw [i6, i5, ← e4, hpI_stI_self, i3 _ (by omega), i2, oI 18 (by omega) (by omega) (by omega) (by omega) (by omega)]
    · rw [d6 _ (by omega), ← e5, hpD_stD_self]
    · rw [ii _ (by omega) (by omega), oI o q1 q2 q3 q4 q5]
    · rw [dd _ (by omega) (by omega) (by omega), oD o q1 q2]
  rw [ro_g25 R4, Option.bind_some]
  by_cases q : v15 = 0
  · rw [if_pos q, ro_g38 R4, Option.bind_some, ro_a38 R4 hs, Option.bind_some, t4, fop_ok (add_nm2 nt fh.fn), Option.bind_some, if_pos q]
    exact key _
  · rw [if_neg q, if_neg q]
    exact key _
theorem sgN_le (M : Nat) : 1 ≤ sgN M ∧ sgN M ≤ 4 := by unfold sgN; split <;> omega
theorem kS_0 (F : FT) (nar : Int32) (n M : Nat) (t h : UInt64) (x : Nat → UInt64) : kS F nar n M t h x 0 = F t x := by
  unfold kS
  split <;> first | rfl | simp_all
theorem r_take {h : Hp} {m s l n ns N no M : Nat} {A : RecT} {hf off endv : UInt64} {isCut : Bool} (X : SX h m l n ns N) (hs : s < 9) (R : RR h m s n A) (hM : A.1 15 0 = nI M) (hM6 : M ≤ 6) (hno : no < 1000) (nt : Nm (A.2 24 0)) (fh : HB hf) (hw : hpI h m 60 = 0 ∨ hpI h m 60 = 1)
    (hx : ∀ i, i < n → hpD h (m + 45) i = A.2 29 i) (hk : ∀ j, j < sgN M → ∀ i, i < n → hpD h (m + 50 + j) i = kS (fR h m l N) (hpI h (m + 2) l) n M (A.2 24 0) hf (A.2 29) j i) (hz : ∀ i, i < n → hpD h (m + 47) i = zS (fR h m l N) (hpI h (m + 2) l) n M (A.2 24 0) hf (A.2 29) i) (hcz : ∀ i, i < n → Cv (zS (fR h m l N) (hpI h (m + 2) l) n M (A.2 24 0) hf (A.2 29) i)) (he : M = 4 → ∀ i, i < n → hpD h (m + 49) i = eP (fR h m l N) (hpI h (m + 2) l) (A.2 24 0) hf (A.2 29) i) (hg : hpI h m 61 = nI (gS (fR h m l N) (hpI h (m + 2) l) n M (A.2 24 0) hf (A.2 29))) :
    ∃ h', f_X9_goes_209 (some m) (nI s) endv (nI l) (nI n) (nI no) hf off (if isCut = true then 1 else 0) h = (bnd (f_X9_looksAtEvents m (nI s) h') fun _ h3 => some (nI no, h3)) ∧ Fs h h' m s ∧ RR h' m s n (tkS A (fR h m l N) (hpI h (m + 2) l) n M no hf off isCut endv) := by
  have H := X.1
  obtain ⟨r1, r2, r3, r4, r5, r6, r7, r8, r9⟩ := id R
  -- the length first
  have key : ∀ (h1 : Hp) (v15 : Int32) (lv : UInt64), Fs h h1 m s → hpI h1 = hpI h → (∀ a, a ≠ m + 25 → hpD h1 a = hpD h a) → hpD h1 (m + 25) s = lv → ((v15 = 0) ↔ isCut = false) → lv = (if isCut = true then A.2 25 0 else if M = 4 ∧ no = 0 then lgS hf off else hf) →
      ∃ h', f_X9_goes_249 (some m) (nI s) endv (nI l) (nI n) (nI no) hf off v15 h1 = (bnd (f_X9_looksAtEvents m (nI s) h') fun _ h3 => some (nI no, h3)) ∧ Fs h h' m s ∧ RR h' m s n (tkS A (fR h m l N) (hpI h (m + 2) l) n M no hf off isCut endv) := by
    intro h1 v15 lv F1 i1 d1 l1 hv hlv
    have X1 := le_SX F1.2.1 X
    have t1 : hpD h1 (m + 24) s = A.2 24 0 := by rw [d1 _ (by omega), r3 24 (by omega) (by omega)]
    have f1 : fR h1 m l N = fR h m l N := le_fR F1.2.1
    obtain ⟨h2, e2, F2, a22, a36, a37, a38, a19, aI, a28, a17, a18, a24, oI, oD⟩ := r_goes_249 (s := s) (no := no) (hf := hf) (off := off) (endv := endv) (v15 := v15) X1 hs (by rw [t1]; exact nt) fh (fun i hi => by rw [d1 _ (by omega)]; exact hz i hi) hcz (by rw [i1]; exact hw)
    rw [t1] at a37 a24
    refine ⟨h2, e2, F1.trans F2, ?_, ?_, ?_, ?_, ?_, ?_, ?_, ?_, ?_⟩
    · intro o q1 q2
      rcases (by omega : o = 14 ∨ o = 15 ∨ o = 16 ∨ o = 17 ∨ o = 18 ∨ o = 19 ∨ o = 20 ∨ o = 21 ∨ o = 22) with rfl | rfl | rfl | rfl | rfl | rfl | rfl | rfl | rfl
      · rw [oI 14 (by omega) (by omega) (by omega) (by omega) (by omega) (by omega) (by omega), i1, r1 14 (by omega) (by omega)]; rfl
      · rw [oI 15 (by omega) (by omega) (by omega) (by omega) (by omega) (by omega) (by omega), i1, r1 15 (by omega) (by omega)]; rfl
      · rw [oI 16 (by omega) (by omega) (by omega) (by omega) (by omega) (by omega) (by omega), i1, r1 16 (by omega) (by omega)]; rfl
      · rw [a17, i1, r1 17 (by omega) (by omega)]; rfl
      · rw [a18, i1, r1 18 (by omega) (by omega)]; rfl
      · rw [a19, i1, hg]; rfl
      · rw [oI 20 (by omega) (by omega) (by omega) (by omega) (by omega) (by omega) (by omega), i1, r1 20 (by omega) (by omega)]; rfl
      · rw [oI 21 (by omega) (by omega) (by omega) (by omega) (by omega) (by omega) (by omega), i1, r1 21 (by omega) (by omega)]; rfl
      · rw [a22]; rfl
    · rw [a36, i1, r1 15 (by omega) (by omega)]; rfl
    · intro o q1 q2
      rcases (by omega : o = 24 ∨ o = 25 ∨ o = 26 ∨ o = 27 ∨ o = 28) with rfl | rfl | rfl | rfl | rfl
      · rw [a24]
        show _ = if isCut = true then endv else FP.dadd (A.2 24 0) hf
        by_cases q : isCut = true
        · rw [if_pos q, if_neg (by rw [hv, q]; decide)]
        · rw [if_neg q, if_pos (by rw [hv]; simpa using q)]
      · rw [oD 25 (by omega) (by omega) (by omega) (by omega) (by omega), l1, hlv]; rfl
      · rw [oD 26 (by omega) (by omega) (by omega) (by omega) (by omega), d1 _ (by omega), r3 26 (by omega) (by omega)]; rfl
      · rw [oD 27 (by omega) (by omega) (by omega) (by omega) (by omega), d1 _ (by omega), r3 27 (by omega) (by omega)]; rfl
      · rw [a28]; rfl
    · rw [a37]; rfl
    · rw [a38]; rfl
    · intro i hi
      rw [(aI i hi).2.2.2.2.2.2, d1 _ (by omega), hz i hi]; rfl
    · intro o q1 q2 j hj
      rw [oI o (by omega) (by omega) (by omega) (by omega) (by omega) (by omega) (by omega), i1, r7 o q1 q2 j hj]
      rcases (by omega : o = 30 ∨ o = 31 ∨ o = 32 ∨ o = 33) with rfl | rfl | rfl | rfl <;> rfl
    · intro j hj
      rw [oI 34 (by omega) (by omega) (by omega) (by omega) (by omega) (by omega) (by omega), i1, oD 35 (by omega) (by omega) (by omega) (by omega) (by omega), d1 _ (by omega)]
      exact r8 j hj
    · intro _
      have eM : tc ((tkS A (fR h m l N) (hpI h (m + 2) l) n M no hf off isCut endv).1 36 0) = M := by
        show tc (A.1 15 0) = M
        rw [hM]; exact ni_cl (by omega)
      rw [eM]
      refine ⟨fun o q1 q2 i hi => ?_, fun j hj i hi => ?_, fun q i hi => ?_⟩
      · obtain ⟨b1, b2, b3, b4, b5, b6, -⟩ := aI i hi
        rcases (by omega : o = 39 ∨ o = 40 ∨ o = 41 ∨ o = 42) with rfl | rfl | rfl | rfl
        · rw [b1, d1 _ (by omega), hx i hi]; rfl
        · rw [b2, d1 _ (by omega), hz i hi]; rfl
        · rw [b3, d1 _ (by omega)]
          have := hk 0 (sgN_le M).1 i hi
          rw [kS_0] at this
          exact this
        · rw [b6, t1, f1]; rfl
      · obtain ⟨-, -, -, b4, -⟩ := aI i hi
        have := (sgN_le M).2
        rw [b4 j (by omega), d1 _ (by omega), hk j hj i hi]
        rcases (by omega : j = 0 ∨ j = 1 ∨ j = 2 ∨ j = 3) with rfl | rfl | rfl | rfl <;> rfl
      · obtain ⟨-, -, -, -, b5, -⟩ := aI i hi
        rw [b5, d1 _ (by omega), he q i hi]; rfl
  have m1 : hpI h (m + 15) s = nI M := by rw [r1 15 (by omega) (by omega), hM]
  unfold f_X9_goes_209
  cases isCut with
  | true =>
    rw [if_pos rfl, if_pos (by decide)]
    exact key h 1 _ (Fs.refl h m s) rfl (fun _ _ => rfl) (r3 25 (by omega) (by omega)) (by decide) (by rw [if_pos rfl])
  | false =>
    rw [if_neg (by decide), if_neg (by decide), ro_g26 H, Option.bind_some, ro_g16 H, Option.bind_some, ro_a16 H hs, Option.bind_some, m1]
    have fin : ∀ lv : UInt64, lv = (if M = 4 ∧ no = 0 then lgS hf off else hf) → ∃ h', f_X9_goes_248 (some m) (nI s) endv (nI l) (nI n) (nI no) hf off 0 lv (nI s) (some (m + 25)) h = (bnd (f_X9_looksAtEvents m (nI s) h') fun _ h3 => some (nI no, h3)) ∧ Fs h h' m s ∧ RR h' m s n (tkS A (fR h m l N) (hpI h (m + 2) l) n M no hf off false endv) := by
      intro lv hlv
      unfold f_X9_goes_248
      rw [ro_s26 H hs, Option.bind_some]
      exact key (stD h (m + 25) s lv) 0 lv (fs_stD _ (by omega)) rfl (fun a ha => hpD_stD_row ha) (hpD_stD_self _ _ _ _) (by simp) (by rw [hlv]; simp)
    by_cases q : M = 4
    · rw [if_neg (by rw [li4, ni_eq (by omega) (by omega)]; simpa using q)]
      by_cases q2 : no = 0
      · rw [if_neg (by rw [li0, ni_eq (by omega) (by omega)]; simpa using q2), r_longer fh, bnd_some]
        exact fin _ (by rw [if_pos ⟨q, q2⟩])
      · rw [if_pos (by rw [li0, ni_eq (by omega) (by omega)]; exact q2)]
        unfold f_X9_goes_246
        exact fin _ (by rw [if_neg (fun z => q2 z.2)])
    · rw [if_pos (by rw [li4, ni_eq (by omega) (by omega)]; exact q)]
      unfold f_X9_goes_246
      exact fin _ (by rw [if_neg (fun z => q z.1)])
