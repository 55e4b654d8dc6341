theorem ig_hd {b : Nat} {h h1 : Hp} {c s nl ns nr l : Nat} {Lw nv nn Ob : Nat → Nat} {ex : Nat → Bool} {rl : Nat → Nat} {Rc : Nat → RecT} {τ : Nat → Nat} (I : IG b h c s nl ns nr Lw nv nn Ob ex rl Rc τ) (hs : s < 9) (he : ex s = true) (hl : l < nl) {P : Nat → Prop} (F : Fr P h h1) (hP : ∀ a, P a → Ob s ≤ a ∧ a < Ob s + 12) (n1 : RN h1 (Ob s + 1) 6) : IG b h1 c s nl ns nr Lw nv nn Ob ex rl Rc τ := by
  have x := I.2.2.2.2.2.1 s hs he
  exact ig_own I hs he hl (Q := fun _ => False) (fun _ z => z.elim) ((F.mono (fun a z => ⟨(hP a z).1, by have := (hP a z).2; omega⟩)).fx) ⟨fr_RB F x.1, n1, sn_fx (F.fx (Q := fun _ => False)) (fun a h1 h2 z => by have := (hP a z).2; omega) x.2.2⟩
/-- a call that writes the run's head on the class's side and its slot on the reference's -/
theorem op_hd {b : Nat} {h h1 h2 : Hp} {c nl ns nr s : Nat} {Lw nv nn Ob : Nat → Nat} {ex : Nat → Bool} {rl : Nat → Nat} {Rc : Nat → RecT} {τ : Nat → Nat} {A : RecT} (I : IG b h c 9 nl ns nr Lw nv nn Ob ex rl Rc τ) (hs : s < nr) {P : Nat → Prop} (F : Fr P h h1) (hP : ∀ a, P a → Ob s ≤ a ∧ a < Ob s + 12) (n1 : RN h1 (Ob s + 1) 6) (F2 : Fs h1 h2 (c + 66) s) (al : A.1 14 = (Rc s).1 14) (R : RR h1 (c + 66) s (nv (rl s)) (Rc s) → RR h2 (c + 66) s (nv (rl s)) A) (C : CR h1 (Ob s) (nv (rl s)) A) (va : VA (200 * b) (800 * b) (nv (rl s)) (nn (rl s)) A) : INV (b + 1) h2 c := by
  obtain ⟨s4, he, hl, si, W⟩ := sl I hs
  obtain ⟨sd, al0, R0, C0, va0, r0⟩ := si
  have b1 := (I.2.2.2.2.2.2.2.2.2.2.2.2 s (by omega) he).1
  have me : ∀ o, hpI h1 (c + 66 + o) = hpI h (c + 66 + o) ∧ hpD h1 (c + 66 + o) = hpD h (c + 66 + o) ∨ 58 ≤ o := fun o => by
    by_cases z : o < 58
    · exact Or.inl (F.2.2.2 _ (fun p => by have := (hP _ p).1; omega))
    · exact Or.inr (by omega)
  have R1 : RR h1 (c + 66) s (nv (rl s)) (Rc s) := rr_eq (fun o _ ho => (me o).resolve_right (by omega)) R0
  refine sl_done (ig_mono (b' := b + 1) (by omega) (ig_hd (ig_weak (s0 := s) I) (by omega) he hl F hP n1)) (by omega) (fun _ => hs) he hl F2 (me_sd (fun o _ ho => (me o).resolve_right (by omega)) sd) (by rw [al]; exact al0) (R R1) C (va.mono (by omega) (by omega)) (by rw [F.2.2.1]; exact r0)
theorem ro_fr {P : Nat → Prop} {h h' : Hp} {m : Nat} (F : Fr P h h') (R : RO h m) : RO h' m := ro_fx (Q := fun _ => False) F.fx (fun z => z) R
theorem ic_I {P : Nat → Prop} {h h' : Hp} {m : Nat} (F : Fr P h h') (hP : ¬ P m) (k : Nat) : hpI h' m k = hpI h m k := by rw [(F.2.2.2 m hP).1]
theorem r_isRun_h {h : Hp} {m nr s : Nat} (H : RO h m) (e : hpI h m 45 = nI nr) (hs : s < nr) (hr : nr ≤ 4) : f_X9_isRun m (nI s) h = some (1, h) := by
  unfold f_X9_isRun
  rw [getI_ok (ro_K H), Option.bind_some, e, r_in_ok hs (by omega), bnd_some, if_pos (by decide)]
theorem op_method {b : Nat} {h : Hp} {c : Nat} (I0 : INV b h c) (p0 p1 : Int32) : ∃ a h1 h2, f_X8_method c p0 p1 h = some (a, h1) ∧ f_X9_method (c + 66) p0 p1 h1 = some (a, h2) ∧ INV (b + 1) h2 c := by
  have Ib := inv_mono (b' := b + 1) (by omega) I0
  obtain ⟨nl, ns, nr, Lw, nv, nn, Ob, ex, rl, Rc, τ, I⟩ := I0
  have X := I.1.1
  have H := I.1.2.2.2.2.2.2.2
  have nr4 := I.2.1.2.2.1
  unfold f_X8_method f_X9_method f_X8_method_20 f_X9_method_18 f_X8_method_44 f_X9_method_46
  rcases in_cases p0 (N := nr) (by omega) with ⟨s, hs, rfl⟩ | hv
  · obtain ⟨s4, he, hl, si, W⟩ := sl I hs
    have B := W.2.1
    obtain ⟨hn, hn1, hN, l8, e1, e3, en, eN, -⟩ := wr_nv W
    obtain ⟨sd, al, R, C, va, r0⟩ := si
    have rl' := rr_l R al
    simp only [xo_ck X, Option.bind_some, c_runAt_ok I hs, bnd_some]
    rw [if_neg (show ¬ some (Ob s) = none by simp)]
    rcases in_cases p1 (N := 7) (by omega) with ⟨M, hM, rfl⟩ | hv
    · have in6 : ∀ g : Hp, f_X9_in (nI M) 0 6 g = some (1, g) := fun g => by rw [r_in, if_pos (show 0 ≤ nI M ∧ nI M ≤ 6 by rw [li0, li6, ni_le (by omega) (by omega), ni_le (by omega) (by omega)]; omega)]
      have F : Fr (fun a => a = Ob s) h (stI h (Ob s) 3 (nI M)) := fr_stI (Fr.refl _ h) rfl
      have b1 := (I.2.2.2.2.2.2.2.2.2.2.2.2 s (by omega) he).1
      have H1 := ro_fr F H
      have i45 : hpI (stI h (Ob s) 3 (nI M)) (c + 66) 45 = nI nr := by rw [ic_I F (by omega)]; exact I.2.1.2.2.2.2.2.2.2.2
      have good : INV (b + 1) (stI (stI h (Ob s) 3 (nI M)) (c + 66 + 15) s (nI M)) c := by
        refine op_hd I hs (A := uI (Rc s) 15 (fun _ => nI M)) F (fun a e => by omega) ?_ (fs_stI (nI M) (Or.inl ⟨by omega, by omega, rfl⟩)) rfl (fun R1 => rr_I1 (nI M) (by omega) (by omega) R1) ?_ ⟨⟨M, rfl, by omega⟩, va.2⟩
        · exact rn_fx (F.fx (Q := fun _ => False)) (by omega) (by omega) W.2.2.1
        · obtain ⟨e1, e2, e3, e4, e5, e6, e7, e8⟩ := cr_h C
          refine cr_head C (F.mono (fun a e => by omega)) (fun o h15 _ _ _ => by rw [uI_1, if_neg h15]) (fun o _ _ _ _ _ => rfl) ⟨e1, hpI_stI_self _ _ _ _, e3, e4, e5, ?_, ?_, ?_⟩ (fun i hi => ?_)
          · rw [hpI_stI_ne (Or.inr (by omega))]; exact e6
          · rw [hpI_stI_ne (Or.inr (by omega))]; exact e7
          · rw [hpI_stI_ne (Or.inr (by omega))]; exact e8
          · rw [fr_RV F (by omega) (by omega)]; exact cr_x C i hi
      have ref : ((ab_ck (stI h (Ob s) 3 (nI M)) (some (c + 66)) (9, 0)).bind fun a4 => bnd (f_X9_isRun a4 (nI s) (stI h (Ob s) 3 (nI M))) fun x1 h2 => if x1 = 0 then some (-1, h2) else bnd (f_X9_in (nI M) 0 6 h2) fun x7 h8 => if ¬ x7 = 0 then (getR h8 (some (c + 66)) 9 16).bind fun x1 => (astI h8 x1 (nI s) (nI M)).bind fun h2 => some ((1 : Int32), h2) else some (-1, h8)) = some (1, stI (stI h (Ob s) 3 (nI M)) (c + 66 + 15) s (nI M)) := by
        rw [ro_ck H1, Option.bind_some, r_isRun_h H1 i45 hs nr4, bnd_some, if_neg (by decide), in6, bnd_some, if_pos (by decide), ro_g16 H1, Option.bind_some, ro_s16 H1 (by omega), Option.bind_some]
      rw [ro_ck H1, Option.bind_some, r_isRun_h H1 i45 hs nr4, bnd_some, if_neg (by decide), in6, bnd_some, if_pos (by decide)] at ref
      rw [if_neg (by rw [li0, ni_lt (by omega) (by omega)]; omega), if_pos (by rw [li6, ni_le (by omega) (by omega)]; omega)]
      by_cases z : M = 6
      · have n6 : ¬ ¬ nI M = 6 := by rw [li6, ni_eq (by omega) (by omega)]; omega
        rw [if_neg n6, rb_g0 B, Option.bind_some, r0, getI_ok W.1.2.1.1, Option.bind_some, en]
        have od := (by decide : ∀ i : Fin 7, (nI i.1 &&& 1) = nI i.1 - nI i.1 / 2 * 2) ⟨nv (rl s), by omega⟩
        have od' : nI (nv (rl s)) &&& 1 = nI (nv (rl s)) - nI (nv (rl s)) / 2 * 2 := od
        rw [od']
        have gen : ∀ g : Hp, RO g (c + 66) → hpI g (c + 66 + 14) s = nI (rl s) → hpI g (c + 66 + 1) (rl s) = nI (nv (rl s)) → ∀ f : Int32 → Option (Int32 × Hp), ((getR g (some (c + 66)) 9 0).bind fun x12 => (getR g (some (c + 66)) 9 15).bind fun x13 => (aldI g x13 11 (nI s)).bind fun x14 => (aldI g x12 11 x14).bind fun x15 => f x15) = f (nI (nv (rl s))) := fun g Hg h14 h1 f => by
          rw [ro_g0 Hg, Option.bind_some, ro_g15 Hg, Option.bind_some, ro_a15 Hg (by omega), Option.bind_some, h14, ro_a0 Hg l8, Option.bind_some, h1]
        by_cases w : nI (nv (rl s)) - nI (nv (rl s)) / 2 * 2 = 1
        · rw [if_neg (fun z => z w)]
          refine ⟨_, h, h, rfl, ?_, Ib⟩
          rw [ro_ck H, Option.bind_some, r_isRun_ok I hs, bnd_some, if_neg (by decide), in6, bnd_some, if_pos (by decide), if_neg n6, gen h H rl' e1, if_neg (fun z => z w)]
        · rw [if_pos w, putI_ok B.1, Option.bind_some]
          refine ⟨_, _, _, rfl, ?_, good⟩
          rw [ro_ck H1, Option.bind_some, r_isRun_h H1 i45 hs nr4, bnd_some, if_neg (by decide), in6, bnd_some, if_pos (by decide), if_neg n6, gen _ H1 (by rw [(F.2.2.2 _ (by omega)).1]; exact rl') (by rw [(F.2.2.2 _ (by omega)).1]; exact e1), if_pos w]
          exact ref
      · have n6 : ¬ nI M = 6 := by rw [li6, ni_eq (by omega) (by omega)]; omega
        rw [if_pos n6, putI_ok B.1, Option.bind_some]
        refine ⟨_, _, _, rfl, ?_, good⟩
        rw [ro_ck H1, Option.bind_some, r_isRun_h H1 i45 hs nr4, bnd_some, if_neg (by decide), in6, bnd_some, if_pos (by decide), if_pos n6]
        exact ref
    · have hn : ¬ (0 ≤ p1 ∧ p1 ≤ 6) := by
        rintro ⟨w1, w2⟩
        rcases hv with v | v
        · exact absurd v (Int32.not_lt.mpr w1)
        · rw [Int32.le_iff_toInt_le] at v w2
          rw [ni_toInt (by omega)] at v
          have : (6 : Int32).toInt = 6 := by decide
          omega
      refine ⟨-1, h, h, ?_, ?_, Ib⟩
      · by_cases q : p1 < 0
        · rw [if_pos q]
        · rw [if_neg q, if_neg (fun w => hn ⟨Int32.not_lt.mp q, w⟩)]
      · rw [ro_ck H, Option.bind_some, r_isRun_ok I hs, bnd_some, if_neg (by decide), r_in, bnd_some, if_neg hn, if_neg (by decide)]
  · simp only [xo_ck X, Option.bind_some, c_runAt_no I hv, bnd_some]
    rw [if_pos trivial]
    refine ⟨_, h, h, rfl, ?_, Ib⟩
    rw [ro_ck H, Option.bind_some, r_isRun_no I hv, bnd_some, if_pos rfl]
