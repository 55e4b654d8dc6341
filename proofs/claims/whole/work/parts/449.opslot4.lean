theorem op_set {b : Nat} {h : Hp} {c : Nat} (I0 : INV b h c) (p0 p1 : Int32) (p2 : Int64) (p3 : Int32) : ∃ a h1 h2, f_X8_set c p0 p1 p2 p3 h = some (a, h1) ∧ f_X9_set (c + 66) p0 p1 p2 p3 h1 = some (a, h2) ∧ INV (b + 1) h2 c := by
  have Ib := inv_mono (b' := b + 1) (by omega) I0
  obtain ⟨nl, ns, nr, Lw, nv, nn, Ob, ex, rl, Rc, τ, I⟩ := I0
  have X := I.1.1
  have H := I.1.2.2.2.2.2.2.2
  have nr4 := I.2.1.2.2.1
  unfold f_X8_set f_X9_set f_X8_set_32 f_X9_set_40
  rcases in_cases p0 (N := nr) (by omega) with ⟨s, hs, rfl⟩ | hv
  · obtain ⟨s4, he, hl, si, W⟩ := sl I hs
    have B := W.2.1
    obtain ⟨hn, hn1, hN, l8, e1, e3, en, eN, -⟩ := wr_nv W
    obtain ⟨sd, al, R, C, va, r0⟩ := si
    have rl' := rr_l R al
    simp only [xo_ck X, Option.bind_some, c_runAt_ok I hs, bnd_some]
    rw [if_neg (show ¬ some (Ob s) = none by simp), rb_g0 B, Option.bind_some, r0, lo_ck W.1.2.1, Option.bind_some]
    rcases in_cases p1 (N := nv (rl s)) (by omega) with ⟨i, hi, rfl⟩ | hv
    · rw [hasV_ok W.1.2.1 en hi hn, bnd_some, if_neg (by decide)]
      rcases k_cases p3 with ⟨k, hk, rfl⟩ | hv
      · rw [(isK_ok hk h).1, bnd_some, if_pos (by decide), rb_gi B, Option.bind_some, (cr_h C).2.2.2.2.2.1]
        by_cases e21 : (Rc s).1 21 0 = 0
        · have nq : Nm (qV p2 (nI k)) := (qV_fn (p := p2) hk).nm
          have cV : Cv (pV (narB (hpI h (c + 66 + 2) (rl s)) (nI i)) (qV p2 (nI k))) := cv_pV (Or.inl nq)
          have eN2 : hpI h (Lw (rl s)) 2 = hpI h (c + 66 + 2) (rl s) := W.1.2.2.2.1.2.2.1
          have dc : decide ((if narB (hpI h (c + 66 + 2) (rl s)) (nI i) = true then (1 : Int32) else 0) ≠ 0) = narB (hpI h (c + 66 + 2) (rl s)) (nI i) := by
            cases narB (hpI h (c + 66 + 2) (rl s)) (nI i) <;> decide
          rw [if_pos e21, rb_g2 B, Option.bind_some, (c_quo hk h).1, bnd_some, rb_g0 B, Option.bind_some, r0, lo_ck W.1.2.1, Option.bind_some, c_isNarrow W.1.2.1, bnd_some, rw_ck (rb_rw B), Option.bind_some, c_put (rb_rw B) (show i < 6 by omega) (by omega) (ev_num nq), bnd_some, eN2, dc]
          generalize ev : pV (narB (hpI h (c + 66 + 2) (rl s)) (nI i)) (qV p2 (nI k)) = V at cV
          have F : Fr (fun a => a = Ob s + 2 ∨ a = Ob s + 3) h (wrV h (Ob s + 1) i V) := fr_wrV (Fr.refl _ h) (by omega) (by omega)
          have b1 := (I.2.2.2.2.2.2.2.2.2.2.2.2 s (by omega) he).1
          have H1 := ro_fr F H
          have i45 : hpI (wrV h (Ob s + 1) i V) (c + 66) 45 = nI nr := by rw [ic_I F (by omega)]; exact I.2.1.2.2.2.2.2.2.2.2
          have f14 : hpI (wrV h (Ob s + 1) i V) (c + 66 + 14) s = nI (rl s) := by rw [(F.2.2.2 _ (by omega)).1]; exact rl'
          have f1 : hpI (wrV h (Ob s + 1) i V) (c + 66 + 1) (rl s) = nI (nv (rl s)) := by rw [(F.2.2.2 _ (by omega)).1]; exact e1
          have f2 : hpI (wrV h (Ob s + 1) i V) (c + 66 + 2) (rl s) = hpI h (c + 66 + 2) (rl s) := by rw [(F.2.2.2 _ (by omega)).1]
          have f21 : hpI (wrV h (Ob s + 1) i V) (c + 66 + 21) s = (Rc s).1 21 0 := by rw [(F.2.2.2 _ (by omega)).1]; exact R.1 21 (by omega) (by omega)
          refine ⟨_, _, stD (wrV h (Ob s + 1) i V) (c + 66 + 29) (6 * s + i) V, rfl, ?_, ?_⟩
          · rw [ro_ck H1, Option.bind_some, r_isRun_h H1 i45 hs nr4, bnd_some, if_neg (by decide), ro_g0 H1, Option.bind_some, ro_g15 H1, Option.bind_some, ro_a15 H1 (by omega), Option.bind_some, f14, ro_a0 H1 l8, Option.bind_some, f1, r_in_ok hi (by omega), bnd_some, if_neg (by decide), (isK_ok hk _).2, bnd_some, if_pos (by decide), ro_g22 H1, Option.bind_some, ro_a22 H1 (by omega), Option.bind_some, f21, if_pos e21, ro_g30 H1, Option.bind_some, ro_g15 H1, Option.bind_some, ro_a15 H1 (by omega), Option.bind_some, f14, (c_quo hk _).2, bnd_some, ro_ck H1, Option.bind_some, r_put H1 l8, bnd_some, f2, ev, li6, ni_mul, ni_add, ro_s30 H1 (by omega), Option.bind_some]
          · refine op_hd I hs (A := uD (Rc s) 29 (up1 ((Rc s).2 29) i V)) F (fun a e => by omega) (RN_wrV W.2.2.1) (fs_stD _ (Or.inr (Or.inr (Or.inl ⟨Or.inl rfl, by omega, by omega⟩)))) rfl (fun R1 => rr_X _ (by omega) R1) ?_ ?_
            · obtain ⟨e1, e2, e3, e4, e5, e6, e7, e8⟩ := cr_h C
              have qd := (F.2.2.2 (Ob s) (by omega)).2
              have qi := (F.2.2.2 (Ob s) (by omega)).1
              refine cr_head C (F.mono (fun a e => by omega)) (fun o _ _ _ _ => rfl) (fun o _ _ _ _ h29 => by rw [uD_2, if_neg h29]) ⟨by rw [qd]; exact e1, by rw [qi]; exact e2, by rw [qd]; exact e3, by rw [qd]; exact e4, by rw [qd]; exact e5, by rw [qi]; exact e6, by rw [qi]; exact e7, by rw [qi]; exact e8⟩ (fun j hj => ?_)
              rw [RV_wrV cV, uD_2, if_pos rfl]
              by_cases e : j = i
              · subst e; rw [if_pos rfl, up1_self]
              · rw [if_neg e, up1_ne e]; exact cr_x C j hj
            · obtain ⟨v1, v2, v3, v4, v5, v6, v7, v8, v9, v10, v11, v12, v13, v14, v15⟩ := va
              refine ⟨v1, v2, v3, v4, v5, v6, v7, v8, v9, v10, v11, v12, fun j hj => ?_, v14, va_t (A := Rc s) rfl rfl (fun o ho => by rw [uD_2, if_neg (by omega)]) v15⟩
              rw [uD_2, if_pos rfl]
              by_cases e : j = i
              · subst e; rw [up1_self]; exact cV
              · rw [up1_ne e]; exact v13 j hj
        · rw [if_neg e21]
          refine ⟨_, h, h, rfl, ?_, Ib⟩
          rw [ro_ck H, Option.bind_some, r_isRun_ok I hs, bnd_some, if_neg (by decide), ro_g0 H, Option.bind_some, ro_g15 H, Option.bind_some, ro_a15 H (by omega), Option.bind_some, rl', ro_a0 H l8, Option.bind_some, e1, r_in_ok hi (by omega), bnd_some, if_neg (by decide), (isK_ok hk _).2, bnd_some, if_pos (by decide), ro_g22 H, Option.bind_some, ro_a22 H (by omega), Option.bind_some, R.1 21 (by omega) (by omega), if_neg e21]
      · rw [(isK_no hv h).1, bnd_some, if_neg (by decide)]
        refine ⟨_, h, h, rfl, ?_, Ib⟩
        rw [ro_ck H, Option.bind_some, r_isRun_ok I hs, bnd_some, if_neg (by decide), ro_g0 H, Option.bind_some, ro_g15 H, Option.bind_some, ro_a15 H (by omega), Option.bind_some, rl', ro_a0 H l8, Option.bind_some, e1, r_in_ok hi (by omega), bnd_some, if_neg (by decide), (isK_no hv _).2, bnd_some, if_neg (by decide)]
    · rw [hasV_no W.1.2.1 en hv, bnd_some, if_pos rfl]
      refine ⟨_, h, h, rfl, ?_, Ib⟩
      rw [ro_ck H, Option.bind_some, r_isRun_ok I hs, bnd_some, if_neg (by decide), ro_g0 H, Option.bind_some, ro_g15 H, Option.bind_some, ro_a15 H (by omega), Option.bind_some, rl', ro_a0 H l8, Option.bind_some, e1, r_in_no (by omega) hv, bnd_some, if_pos rfl]
  · simp only [xo_ck X, Option.bind_some, c_runAt_no I hv, bnd_some]
    rw [if_pos trivial]
    refine ⟨_, h, h, rfl, ?_, Ib⟩
    rw [ro_ck H, Option.bind_some, r_isRun_no I hv, bnd_some, if_pos rfl]
def evA (A : RecT) (ne : Nat) (q d k w : Int32) : RecT := uI (uI (uI (uI (uI A 30 (up1 (A.1 30) ne q)) 31 (up1 (A.1 31) ne d)) 32 (up1 (A.1 32) ne k)) 33 (up1 (A.1 33) ne w)) 16 (fun _ => nI (ne + 1))
def evH (h : Hp) (r ne : Nat) (q d k w : Int32) : Hp := stI (stI (stI (stI (stI h (r + 5) ne q) (r + 6) ne d) (r + 7) ne k) (r + 8) ne w) (r + 4) 0 (nI (ne + 1))
theorem c_evadd {h : Hp} {r k0 ne : Nat} {q d k w : Int32} (B : RB h r k0) (e : hpI h (r + 4) 0 = nI ne) (hne : ne ≤ 4) : f_X0_add (r + 4) q d k w h = if ne < 4 then some (nI ne, evH h r ne q d k w) else some (-3, h) := by
  unfold f_X0_add
  rw [rb_ei B, Option.bind_some, e]
  by_cases z : ne < 4
  · have st : ∀ g : Hp, hpK g = hpK h → hpR g = hpR h → RB g r k0 := fun g h1 h2 => by unfold RB S0 RW; rw [h1, h2]; exact B
    have B1 : RB (stI h (r + 5) ne q) r k0 := st _ rfl rfl
    have B2 : RB (stI (stI h (r + 5) ne q) (r + 6) ne d) r k0 := st _ rfl rfl
    have B3 : RB (stI (stI (stI h (r + 5) ne q) (r + 6) ne d) (r + 7) ne k) r k0 := st _ rfl rfl
    have B4 : RB (stI (stI (stI (stI h (r + 5) ne q) (r + 6) ne d) (r + 7) ne k) (r + 8) ne w) r k0 := st _ rfl rfl
    have B5 : RB (stI (stI (stI (stI (stI h (r + 5) ne q) (r + 6) ne d) (r + 7) ne k) (r + 8) ne w) (r + 4) 0 (nI ne + 1)) r k0 := st _ rfl rfl
    rw [if_pos z, if_pos (by rw [li4, ni_lt (by omega) (by omega)]; exact z), rb_e1 B, Option.bind_some, Option.bind_some, rb_sI B (by omega) (by omega) z, Option.bind_some, rb_e2 B1, Option.bind_some, rb_ei B1, Option.bind_some, hpI_stI_ne (Or.inl (by omega)), e, rb_sI B1 (by omega) (by omega) z, Option.bind_some, rb_e3 B2, Option.bind_some, rb_ei B2, Option.bind_some, hpI_stI_ne (Or.inl (by omega)), hpI_stI_ne (Or.inl (by omega)), e, rb_sI B2 (by omega) (by omega) z, Option.bind_some, rb_e4 B3, Option.bind_some, rb_ei B3, Option.bind_some, hpI_stI_ne (Or.inl (by omega)), hpI_stI_ne (Or.inl (by omega)), hpI_stI_ne (Or.inl (by omega)), e, rb_sI B3 (by omega) (by omega) z, Option.bind_some, rb_ei B4, Option.bind_some, hpI_stI_ne (Or.inl (by omega)), hpI_stI_ne (Or.inl (by omega)), hpI_stI_ne (Or.inl (by omega)), hpI_stI_ne (Or.inl (by omega)), e, putI_ok (rb_eK B4), Option.bind_some, rb_ei B5, Option.bind_some, hpI_stI_self, li1, ni_add, ni_sub (by omega)]
    rfl
  · rw [if_neg z, if_neg (by rw [li4, ni_lt (by omega) (by omega)]; exact z)]
theorem evH_at {h : Hp} {r ne : Nat} {q d k w : Int32} (j : Nat) : hpI (evH h r ne q d k w) (r + 5) j = up1 (hpI h (r + 5)) ne q j ∧ hpI (evH h r ne q d k w) (r + 6) j = up1 (hpI h (r + 6)) ne d j ∧ hpI (evH h r ne q d k w) (r + 7) j = up1 (hpI h (r + 7)) ne k j ∧ hpI (evH h r ne q d k w) (r + 8) j = up1 (hpI h (r + 8)) ne w j ∧ hpI (evH h r ne q d k w) (r + 4) j = up1 (hpI h (r + 4)) 0 (nI (ne + 1)) j := by
  unfold evH up1
  simp only [hpI_stI]
  refine ⟨?_, ?_, ?_, ?_, ?_⟩ <;> simp
theorem cr_evadd {h : Hp} {r n ne : Nat} {q d k w : Int32} {A : RecT} (C : CR h r n A) (F : Fr (fun a => r + 4 ≤ a ∧ a ≤ r + 8) h (evH h r ne q d k w)) : CR (evH h r ne q d k w) r n (evA A ne q d k w) := by
  obtain ⟨c1, c2', c3, c4, c5, c6, c7, c8, c9, c10, c11, c12, c13, c14, c15, c16, c17⟩ := C
  have at' := fun j => evH_at (h := h) (r := r) (ne := ne) (q := q) (d := d) (k := k) (w := w) j
  generalize evH h r ne q d k w = g at F at'
  have Q : ∀ o, (o < 4 ∨ 8 < o) → hpI g (r + o) = hpI h (r + o) ∧ hpD g (r + o) = hpD h (r + o) := fun o h1 => F.2.2.2 _ (by omega)
  have q0I : hpI g r = hpI h r := (Q 0 (by omega)).1
  have q0D : hpD g r = hpD h r := (Q 0 (by omega)).2
  have rv : ∀ o, IsR o → RV g (r + 12 + o) = RV h (r + 12 + o) := fun o ho => fr_RV F (by omega) (by omega)
  refine ⟨by rw [q0D]; exact c1, by rw [q0I]; exact c2', by rw [q0D]; exact c3, by rw [q0D]; exact c4, by rw [q0D]; exact c5, by rw [q0I]; exact c6, by rw [q0I]; exact c7, by rw [q0I]; exact c8, fun i hi => by rw [fr_RV F (by omega) (by omega)]; exact c9 i hi, ?_, ?_, fun j hj => ?_, fun j hj => ?_, by rw [(Q 12 (by omega)).2]; exact c14, by rw [(Q 12 (by omega)).1]; exact c15, by rw [(Q 12 (by omega)).2]; exact c16, fun st => ?_⟩
  · rw [(at' 0).2.2.2.2, up1_self]; rfl
  · rw [(at' 6).2.2.2.2, up1_ne (by omega)]; exact c11
  · obtain ⟨a1, a2, a3, a4, -⟩ := at' j
    obtain ⟨d1, d2, d3, d4⟩ := c12 j hj
    rw [a1, a2, a3, a4]
    show _ = up1 (A.1 30) ne q j ∧ _ = up1 (A.1 31) ne d j ∧ _ = up1 (A.1 32) ne k j ∧ _ = up1 (A.1 33) ne w j
    unfold up1
    by_cases e : j = ne
    · simp [e]
    · simp [e, d1, d2, d3, d4]
  · rw [(Q 10 (by omega)).1, (Q 11 (by omega)).2]; exact c13 j hj
  · obtain ⟨d1, d2, d3, d4, d5, d6⟩ := c17 st
    refine ⟨by rw [F.2.2.1]; exact d1, by rw [(Q 12 (by omega)).1]; exact d2, ⟨by rw [(Q 12 (by omega)).2]; exact d3.1, by rw [(Q 12 (by omega)).2]; exact d3.2.1, fun i hi => by rw [rv 1 i1, rv 7 i7, rv 11 i11, rv 26 i26]; exact d3.2.2 i hi⟩, by rw [(Q 12 (by omega)).2]; exact d4, fun j hj i hi => by rw [rv (11 + 3 * j) (isr_k (by have := sgN_le (tc (A.1 36 0)); exact Nat.lt_of_lt_of_le hj this.2))]; exact d5 j hj i hi, fun e i hi => by rw [rv 23 i23]; exact d6 e i hi⟩
theorem op_event {b : Nat} {h : Hp} {c : Nat} (I0 : INV b h c) (p0 p1 p2 p3 p4 : Int32) : ∃ a h1 h2, f_X8_event c p0 p1 p2 p3 p4 h = some (a, h1) ∧ f_X9_event (c + 66) p0 p1 p2 p3 p4 h1 = some (a, h2) ∧ INV (b + 1) h2 c := by
  have Ib := inv_mono (b' := b + 1) (by omega) I0
  obtain ⟨nl, ns, nr, Lw, nv, nn, Ob, ex, rl, Rc, τ, I⟩ := I0
  have X := I.1.1
  have H := I.1.2.2.2.2.2.2.2
  have nr4 := I.2.1.2.2.1
  unfold f_X8_event f_X9_event f_X8_event_24 f_X9_event_48 f_X8_event_47
  rcases in_cases p0 (N := nr) (by omega) with ⟨s, hs, rfl⟩ | hv
  · obtain ⟨s4, he, hl, si, W⟩ := sl I hs
    have B := W.2.1
    obtain ⟨hn, hn1, hN, l8, e1, e3, en, eN, -⟩ := wr_nv W
    obtain ⟨sd, al, R, C, va, r0⟩ := si
    have rl' := rr_l R al
    simp only [xo_ck X, Option.bind_some, c_runAt_ok I hs, bnd_some]
    rw [if_neg (show ¬ some (Ob s) = none by simp), rb_g0 B, Option.bind_some, r0, lo_ck W.1.2.1, Option.bind_some]
    rcases in_cases p1 (N := nn (rl s)) (by omega) with ⟨q, hq, rfl⟩ | hv
    · rw [hasN_ok W.1.2.1 eN hq hN, bnd_some, if_pos (by decide)]
      have pre : ∀ g : Hp, RO g (c + 66) → hpI g (c + 66) 45 = nI nr → hpI g (c + 66 + 14) s = nI (rl s) → hpI g (c + 66 + 3) (rl s) = nI (nn (rl s)) → ∀ f : Hp → Option (Int32 × Hp), ((ab_ck g (some (c + 66)) (9, 0)).bind fun a4 => bnd (f_X9_isRun a4 (nI s) g) fun x1 h2 => if x1 = 0 then some (-1, h2) else (getR h2 (some (c + 66)) 9 2).bind fun x7 => (getR h2 (some (c + 66)) 9 15).bind fun x8 => (aldI h2 x8 11 (nI s)).bind fun x9 => (aldI h2 x7 11 x9).bind fun x10 => bnd (f_X9_in (nI q) 0 (x10 - 1) h2) fun x11 h12 => if x11 = 0 then some (-1, h12) else f h12) = f g := fun g Hg h45 h14 h3 f => by
        rw [ro_ck Hg, Option.bind_some, r_isRun_h Hg h45 hs nr4, bnd_some, if_neg (by decide), ro_g2 Hg, Option.bind_some, ro_g15 Hg, Option.bind_some, ro_a15 Hg (by omega), Option.bind_some, h14, ro_a2 Hg l8, Option.bind_some, h3, r_in_ok hq (by omega), bnd_some, if_neg (by decide)]
      have pre0 := pre h H I.2.1.2.2.2.2.2.2.2.2 rl' e3
      by_cases z1 : p2 < -1 ∨ 1 < p2
      · have nz : ¬ (-1 ≤ p2 ∧ p2 ≤ 1) := by
          rintro ⟨w1, w2⟩
          rcases z1 with z | z
          · exact absurd z (Int32.not_lt.mpr w1)
          · exact absurd z (Int32.not_lt.mpr w2)
        refine ⟨-1, h, h, ?_, ?_, Ib⟩
        · by_cases z : p2 < -1
          · rw [if_pos z]
          · rw [if_neg z, if_pos (z1.resolve_left z)]
        · refine (pre0 _).trans ?_
          rw [r_in, bnd_some, if_neg nz, if_pos rfl]
      · have z1a : ¬ p2 < -1 := fun z => z1 (Or.inl z)
        have z1b : ¬ 1 < p2 := fun z => z1 (Or.inr z)
        rw [if_neg z1a, if_neg z1b]
        by_cases z2 : 0 ≤ p3 ∧ p3 ≤ 3
        · rw [if_neg (Int32.not_lt.mpr z2.1), if_pos z2.2, rb_g10 B, Option.bind_some, rb_ec B, Option.bind_some]
          obtain ⟨ne, ne1, ne2, ne3⟩ := va.2.1
          rw [c_evadd B (by rw [(cr_ev C).1, ne1]) ne2]
          by_cases z3 : ne < 4
          · rw [if_pos z3, bnd_some]
            have F : Fr (fun a => Ob s + 4 ≤ a ∧ a ≤ Ob s + 8) h (evH h (Ob s) ne (nI q) p2 p3 p4) := by
              unfold evH
              exact fr_stI (fr_stI (fr_stI (fr_stI (fr_stI (Fr.refl _ h) (by omega)) (by omega)) (by omega)) (by omega)) (by omega)
            have CE := cr_evadd C F
            have b1 := (I.2.2.2.2.2.2.2.2.2.2.2.2 s (by omega) he).1
            generalize evH h (Ob s) ne (nI q) p2 p3 p4 = g at F CE
            have Hg := ro_fr F H
            have ix : (4 : Int32) * nI s + nI ne = nI (4 * s + ne) := by rw [li4, ni_mul, ni_add]
            have keep : ∀ (u : Hp) (a k : Nat) (v : Int32), RO u (c + 66) → RO (stI u a k v) (c + 66) := fun u a k v Hu => ro_fr (fr_stI (P := fun _ => True) (Fr.refl _ _) trivial) Hu
            have H1 := keep _ (c + 66 + 30) (4 * s + ne) (nI q) Hg
            have H2 := keep _ (c + 66 + 31) (4 * s + ne) p2 H1
            have H3 := keep _ (c + 66 + 32) (4 * s + ne) p3 H2
            have H4 := keep _ (c + 66 + 33) (4 * s + ne) p4 H3
            have H5 := keep _ (c + 66 + 16) s (nI (ne + 1)) H4
            have g16 : hpI g (c + 66 + 16) s = nI ne := by rw [(F.2.2.2 _ (by omega)).1, R.1 16 (by omega) (by omega)]; exact ne1
            refine ⟨_, _, stI (stI (stI (stI (stI g (c + 66 + 30) (4 * s + ne) (nI q)) (c + 66 + 31) (4 * s + ne) p2) (c + 66 + 32) (4 * s + ne) p3) (c + 66 + 33) (4 * s + ne) p4) (c + 66 + 16) s (nI (ne + 1)), rfl, ?_, ?_⟩
            · refine (pre g Hg (by rw [ic_I F (by omega)]; exact I.2.1.2.2.2.2.2.2.2.2) (by rw [(F.2.2.2 _ (by omega)).1]; exact rl') (by rw [(F.2.2.2 _ (by omega)).1]; exact e3) _).trans ?_
              rw [r_in, bnd_some, if_pos (show -1 ≤ p2 ∧ p2 ≤ 1 from ⟨Int32.not_lt.mp z1a, Int32.not_lt.mp z1b⟩), if_neg (by decide), r_in, bnd_some, if_pos z2, if_pos (by decide), ro_g17 Hg, Option.bind_some, ro_a17 Hg (by omega), Option.bind_some, g16, if_pos (show ¬ nI ne = 4 by rw [li4, ni_eq (by omega) (by omega)]; omega), Option.bind_some, ro_a17 Hg (by omega), Option.bind_some, g16, ro_g31 Hg, Option.bind_some, ix, ro_s31 Hg (by omega), Option.bind_some, ro_g32 H1, Option.bind_some, ro_s32 H1 (by omega), Option.bind_some, ro_g33 H2, Option.bind_some, ro_s33 H2 (by omega), Option.bind_some, ro_g34 H3, Option.bind_some, ro_s34 H3 (by omega), Option.bind_some, ro_g17 H4, Option.bind_some, ro_a17 H4 (by omega), Option.bind_some, hpI_stI_ne (Or.inl (by omega)), hpI_stI_ne (Or.inl (by omega)), hpI_stI_ne (Or.inl (by omega)), hpI_stI_ne (Or.inl (by omega)), g16, li1, ni_add, ro_s17 H4 (by omega), Option.bind_some, ro_g17 H5, Option.bind_some, ro_a17 H5 (by omega), Option.bind_some, hpI_stI_self, ni_sub (by omega)]
              rfl
            · refine op_hd I hs (A := evA (Rc s) ne (nI q) p2 p3 p4) F (fun a e => by omega) (rn_fx (F.fx (Q := fun _ => False)) (by omega) (by omega) W.2.2.1) (((((fs_stI _ (Or.inr (Or.inr (Or.inl ⟨by omega, by omega, by omega, by omega⟩)))).trans (fs_stI _ (Or.inr (Or.inr (Or.inl ⟨by omega, by omega, by omega, by omega⟩))))).trans (fs_stI _ (Or.inr (Or.inr (Or.inl ⟨by omega, by omega, by omega, by omega⟩))))).trans (fs_stI _ (Or.inr (Or.inr (Or.inl ⟨by omega, by omega, by omega, by omega⟩))))).trans (fs_stI _ (Or.inl ⟨by omega, by omega, rfl⟩))) rfl (fun R1 => ?_) CE ?_
              · exact rr_I1 _ (by omega) (by omega) (rr_E _ (by omega) (by omega) z3 (rr_E _ (by omega) (by omega) z3 (rr_E _ (by omega) (by omega) z3 (rr_E _ (by omega) (by omega) z3 R1))))
              · obtain ⟨v1, v2, v3⟩ := va
                refine ⟨v1, ⟨ne + 1, rfl, by omega, fun j hj => ?_⟩, v3⟩
                show ∃ q', up1 ((Rc s).1 30) ne (nI q) j = nI q' ∧ _
                by_cases e : j = ne
                · subst e; rw [up1_self]; exact ⟨q, rfl, hq⟩
                · rw [up1_ne e]; exact ne3 j (by omega)
          · rw [if_neg z3, bnd_some]
            refine ⟨_, h, h, rfl, ?_, Ib⟩
            refine (pre0 _).trans ?_
            rw [r_in, bnd_some, if_pos (show -1 ≤ p2 ∧ p2 ≤ 1 from ⟨Int32.not_lt.mp z1a, Int32.not_lt.mp z1b⟩), if_neg (by decide), r_in, bnd_some, if_pos z2, if_pos (by decide), ro_g17 H, Option.bind_some, ro_a17 H (by omega), Option.bind_some, R.1 16 (by omega) (by omega), ne1, if_neg (show ¬ ¬ nI ne = 4 by rw [li4, ni_eq (by omega) (by omega)]; omega)]
        · refine ⟨-1, h, h, ?_, ?_, Ib⟩
          · by_cases z : p3 < 0
            · rw [if_pos z]
            · rw [if_neg z, if_neg (fun w => z2 ⟨Int32.not_lt.mp z, w⟩)]
          · refine (pre0 _).trans ?_
            rw [r_in, bnd_some, if_pos (show -1 ≤ p2 ∧ p2 ≤ 1 from ⟨Int32.not_lt.mp z1a, Int32.not_lt.mp z1b⟩), if_neg (by decide), r_in, bnd_some, if_neg z2, if_neg (by decide)]
    · rw [hasN_no W.1.2.1 eN hv, bnd_some, if_neg (by decide)]
      refine ⟨_, h, h, rfl, ?_, Ib⟩
      rw [ro_ck H, Option.bind_some, r_isRun_ok I hs, bnd_some, if_neg (by decide), ro_g2 H, Option.bind_some, ro_g15 H, Option.bind_some, ro_a15 H (by omega), Option.bind_some, rl', ro_a2 H l8, Option.bind_some, e3, r_in_no (by omega) hv, bnd_some, if_pos rfl]
  · simp only [xo_ck X, Option.bind_some, c_runAt_no I hv, bnd_some]
    rw [if_pos trivial]
    refine ⟨_, h, h, rfl, ?_, Ib⟩
    rw [ro_ck H, Option.bind_some, r_isRun_no I hv, bnd_some, if_pos rfl]
