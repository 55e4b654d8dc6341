theorem rr_flag {h : Hp} {m s n p : Nat} {v : Int32} {A : RecT} (R : RR h m s n A) : RR (stI h (m + 23) p v) m s n A := by
  obtain ⟨r1, r2, r3, r4, r5, r6, r7, r8, r9⟩ := R
  have e : ∀ o, o ≠ 23 → hpI (stI h (m + 23) p v) (m + o) = hpI h (m + o) := fun o h3 => hpI_stI_row (by omega)
  refine ⟨fun o h1 h2 => by rw [e o (by omega)]; exact r1 o h1 h2, by rw [e 36 (by omega)]; exact r2, r3, r4, r5, r6, fun o h1 h2 j hj => by rw [e o (by omega)]; exact r7 o h1 h2 j hj, fun j hj => by rw [e 34 (by omega)]; exact r8 j hj, r9⟩
theorem rr_flag' {h : Hp} {m s n p : Nat} {v : Int32} {A : RecT} (R : RR (stI h (m + 23) p v) m s n A) : RR h m s n A := by
  obtain ⟨r1, r2, r3, r4, r5, r6, r7, r8, r9⟩ := R
  have e : ∀ o, o ≠ 23 → hpI (stI h (m + 23) p v) (m + o) = hpI h (m + o) := fun o h3 => hpI_stI_row (by omega)
  refine ⟨fun o h1 h2 => by rw [← e o (by omega)]; exact r1 o h1 h2, by rw [← e 36 (by omega)]; exact r2, r3, r4, r5, r6, fun o h1 h2 j hj => by rw [← e o (by omega)]; exact r7 o h1 h2 j hj, fun j hj => by rw [← e 34 (by omega)]; exact r8 j hj, r9⟩
theorem fs_flag {h h' : Hp} {m s p : Nat} {v : Int32} (F : Fs h h' m s) : Fs (stI h (m + 23) p v) (stI h' (m + 23) p v) m s := by
  obtain ⟨f1, f2, f3, f4, f5, f6⟩ := F
  refine ⟨f1, ⟨f2.1, f2.2.1, fun o h1 h2 => ⟨?_, (f2.2.2 o h1 h2).2⟩⟩, fun a ha => ⟨?_, (f3 a ha).2⟩, fun k h1 h2 => ?_, ?_, fun s' hs' n A hn R => rr_flag (f6 s' hs' n A hn (rr_flag' R))⟩
  · rw [hpI_stI_row (by omega), hpI_stI_row (by omega)]; exact (f2.2.2 o h1 h2).1
  · rw [hpI_stI_row (by omega), hpI_stI_row (by omega)]; exact (f3 a ha).1
  · rw [hpI_stI_row (by omega), hpI_stI_row (by omega)]; exact f4 k h1 h2
  · funext j
    rw [hpI_stI, hpI_stI, if_pos rfl, if_pos rfl, f5]
theorem op_keep {b : Nat} {h : Hp} {c : Nat} (I0 : INV b h c) (p0 p1 : Int32) : ∃ a h1 h2, f_X8_keep c p0 p1 h = some (a, h1) ∧ f_X9_keep (c + 66) p0 p1 h1 = some (a, h2) ∧ INV (b + 1) h2 c := by
  have Ib := inv_mono (b' := b + 1) (by omega) I0
  obtain ⟨nl, ns, nr, Lw, nv, nn, Ob, ex, rl, Rc, τ, I⟩ := I0
  have X := I.1.1
  have H := I.1.2.2.2.2.2.2.2
  have nr4 := I.2.1.2.2.1
  unfold f_X8_keep f_X9_keep f_X8_keep_19 f_X9_keep_17
  rcases in_cases p0 (N := nr) (by omega) with ⟨s, hs, rfl⟩ | hv
  · obtain ⟨s4, he, hl, si, W⟩ := sl I hs
    obtain ⟨hn, hn1, hN, l8, e1, e3, en, eN, -⟩ := wr_nv W
    obtain ⟨sd, al, R, C, va, r0⟩ := si
    simp only [xo_ck X, Option.bind_some, c_runAt_ok I hs, bnd_some]
    rw [if_neg (show ¬ some (Ob s) = none by simp)]
    rcases in_cases p1 (N := 4) (by omega) with ⟨p, hp, rfl⟩ | hv
    · obtain ⟨r', h1, Ob', ex', τ', ec, I1, eO, eX, -, r01, C1, fe, H1⟩ := c_store I hs (show p < 5 by omega)
      rw [if_neg (by rw [li0, ni_lt (by omega) (by omega)]; omega), if_pos (by rw [li4, ni_lt (by omega) (by omega)]; omega), ec, bnd_some]
      have fl : flg h1 c p = stI h1 (c + 66 + 23) p 1 := by unfold flg; rw [if_pos hp]
      rw [fl] at I1
      have R1 : RR h1 (c + 66) s (nv (rl s)) (Rc s) := rr_eq (fun o _ ho => fe o (by omega)) R
      obtain ⟨h2, e2, F2, R3⟩ := r_copies H1 (show s < 9 by omega) (show 4 + p < 9 by omega) (by omega) hn R1 va.2.2.2.2.1 va.2.2.2.2.2.1
      have H2 : RO h2 (c + 66) := le_RO F2.2.1 H1
      refine ⟨_, h1, stI h2 (c + 66 + 23) p 1, rfl, ?_, ?_⟩
      · rw [ro_ck H1, Option.bind_some, r_isRun_h H1 (by rw [show c + 66 = c + 66 + 0 from rfl, (fe 0 (by omega)).1]; exact I.2.1.2.2.2.2.2.2.2.2) hs nr4, bnd_some, if_neg (by decide), in3_ok hp, bnd_some, if_pos (by decide), ro_ck H1, Option.bind_some, show (4 : Int32) + nI p = nI (4 + p) by rw [li4, ni_add], e2, bnd_some, ro_g24 H2, Option.bind_some, ro_s24 H2 hp, nar1, Option.bind_some]
      · have b1 := (I1.2.2.2.2.2.2.2.2.2.2.2.2 (4 + p) (by omega) eX).1
        rw [eO] at b1
        refine sl_done (l := rl s) (A := Rc s) (ig_mono (b' := b + 1) (by omega) I1) (by omega) (by omega) eX hl (fs_flag F2) ?_ al (rr_flag R3) ?_ (va.mono (by omega) (by omega)) ?_
        · refine me_sd (fun o h1 h2 => ?_) sd
          rw [hpI_stI_row (by omega)]; exact fe o (by omega)
        · rw [eO]
          exact cr_fx (Q := fun _ => False) C1 (fr_stI (P := fun a => a = c + 66 + 23) (Fr.refl _ _) rfl).fx (fun a h1 h2 z => by omega) (fun _ _ _ z => z)
        · rw [eO]; exact r01
    · refine ⟨-1, h, h, ?_, ?_, Ib⟩
      · by_cases q : p1 < 0
        · rw [if_pos q]
        · rw [if_neg q, if_neg (show ¬ p1 < 4 from Int32.not_lt.mpr (hv.resolve_left q))]
      · rw [ro_ck H, Option.bind_some, r_isRun_ok I hs, bnd_some, if_neg (by decide), in3_no hv, bnd_some, if_neg (by decide)]
  · simp only [xo_ck X, Option.bind_some, c_runAt_no I hv, bnd_some]
    rw [if_pos trivial]
    refine ⟨_, h, h, rfl, ?_, Ib⟩
    rw [ro_ck H, Option.bind_some, r_isRun_no I hv, bnd_some, if_pos rfl]
