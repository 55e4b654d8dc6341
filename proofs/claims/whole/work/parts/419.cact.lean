/-! ===== an event acts; all events of a step ===== -/
theorem c_hasVariable {h : Hp} {L k sg n : Nat} (H : LO h L k sg n) (en : hpI h L 1 = nI n) (v : Int32) : f_X1_hasVariable L v h = some (if v < 0 then 0 else if nI n ≤ v then 0 else 1, h) := by
  unfold f_X1_hasVariable f_X1_hasVariable_16 f_X1_hasVariable_17
  by_cases q : v < 0
  · rw [if_pos q, if_pos q, if_pos (by decide)]
  · rw [if_neg q, if_neg q, lo_gi H, Option.bind_some, en]
    by_cases q2 : nI n ≤ v
    · rw [if_pos q2, if_pos q2, if_pos (by decide)]
    · rw [if_neg q2, if_neg q2, if_pos (by decide)]
theorem c_hasNode {h : Hp} {L k sg n N : Nat} (H : LO h L k sg n) (en : hpI h L 10 = nI N) (v : Int32) : f_X1_hasNode L v h = some (if v < 0 then 0 else if nI N ≤ v then 0 else 1, h) := by
  unfold f_X1_hasNode f_X1_hasNode_16 f_X1_hasNode_17
  by_cases q : v < 0
  · rw [if_pos q, if_pos q, if_pos (by decide)]
  · rw [if_neg q, if_neg q, lo_gi H, Option.bind_some, en]
    by_cases q2 : nI N ≤ v
    · rw [if_pos q2, if_pos q2, if_pos (by decide)]
    · rw [if_neg q2, if_neg q2, if_pos (by decide)]
/-- the run's own fields and its states change -/
theorem cr_head {h h' : Hp} {r n : Nat} {A A' : RecT} (C : CR h r n A) (F : Fr (fun a => a = r ∨ a = r + 2 ∨ a = r + 3) h h') (a1 : ∀ o, o ≠ 15 → o ≠ 17 → o ≠ 18 → o ≠ 21 → A'.1 o = A.1 o) (a2 : ∀ o, o ≠ 24 → o ≠ 25 → o ≠ 26 → o ≠ 27 → o ≠ 29 → A'.2 o = A.2 o)
    (hd : hpD h' r 1 = A'.2 24 0 ∧ hpI h' r 3 = A'.1 15 0 ∧ hpD h' r 4 = A'.2 25 0 ∧ hpD h' r 5 = A'.2 26 0 ∧ hpD h' r 6 = A'.2 27 0 ∧ hpI h' r 7 = A'.1 21 0 ∧ hpI h' r 8 = A'.1 17 0 ∧ hpI h' r 9 = A'.1 18 0) (hs : ∀ i, i < n → RV h' (r + 1) i = A'.2 29 i) : CR h' r n A' := by
  obtain ⟨c1, c2', c3, c4, c5, c6, c7, c8, c9, c10, c11, c12, c13, c14, c15, c16, c17⟩ := C
  obtain ⟨e1, e2, e3, e4, e5, e6, e7, e8⟩ := hd
  have q : ∀ o, 4 ≤ o → hpI h' (r + o) = hpI h (r + o) ∧ hpD h' (r + o) = hpD h (r + o) := fun o h1 => F.2.2.2 _ (by omega)
  have rv : ∀ o, IsR o → RV h' (r + 12 + o) = RV h (r + 12 + o) := fun o ho => by
    have h1 := isr_le ho
    exact fr_RV F (by omega) (by omega)
  refine ⟨e1, e2, e3, e4, e5, e6, e7, e8, hs, by rw [(q 4 (by omega)).1, a1 16 (by omega) (by omega) (by omega) (by omega)]; exact c10, by rw [(q 4 (by omega)).1, a1 20 (by omega) (by omega) (by omega) (by omega)]; exact c11, fun i hi' => ?_, fun i hi' => ?_, by rw [(q 12 (by omega)).2, a2 28 (by omega) (by omega) (by omega) (by omega) (by omega)]; exact c14, by rw [(q 12 (by omega)).1, a1 19 (by omega) (by omega) (by omega) (by omega)]; exact c15, by rw [(q 12 (by omega)).2, a2 38 (by omega) (by omega) (by omega) (by omega) (by omega)]; exact c16, fun st => ?_⟩
  · rw [(q 5 (by omega)).1, (q 6 (by omega)).1, (q 7 (by omega)).1, (q 8 (by omega)).1, a1 30 (by omega) (by omega) (by omega) (by omega), a1 31 (by omega) (by omega) (by omega) (by omega), a1 32 (by omega) (by omega) (by omega) (by omega), a1 33 (by omega) (by omega) (by omega) (by omega)]; exact c12 i hi'
  · rw [(q 10 (by omega)).1, (q 11 (by omega)).2, a1 34 (by omega) (by omega) (by omega) (by omega), a2 35 (by omega) (by omega) (by omega) (by omega) (by omega)]; exact c13 i hi'
  · have b1 := a1 36 (by omega) (by omega) (by omega) (by omega)
    have st' : A.1 22 0 = 1 := by rw [← st, a1 22 (by omega) (by omega) (by omega) (by omega)]
    obtain ⟨d1, d2, d3, d4, d5, d6⟩ := c17 st'
    have w12I := (q 12 (by omega)).1
    have w12D := (q 12 (by omega)).2
    have b2 : ∀ o, 30 ≤ o → A'.2 o = A.2 o := fun o ho => a2 o (by omega) (by omega) (by omega) (by omega) (by omega)
    refine ⟨by rw [F.2.2.1]; exact d1, by rw [w12I, b1]; exact d2, ⟨by rw [w12D, b2 37 (by omega)]; exact d3.1, by rw [w12D, b2 38 (by omega)]; exact d3.2.1, fun i hi' => by rw [rv 1 i1, rv 7 i7, rv 11 i11, rv 26 i26, b2 39 (by omega), b2 40 (by omega), b2 41 (by omega), b2 42 (by omega)]; exact d3.2.2 i hi'⟩, by rw [w12D, b2 37 (by omega), b2 38 (by omega)]; exact d4, fun jj hj i hi' => ?_, fun e i hi' => ?_⟩
    · rw [b1] at hj
      rw [rv (11 + 3 * jj) (isr_k (by have := sgN_le (tc (A.1 36 0)); omega)), b2 (100 + jj) (by omega)]; exact d5 jj hj i hi'
    · rw [b1] at e
      rw [rv 23 i23, b2 104 (by omega)]; exact d6 e i hi'
/-- the run's own cells are written -/
theorem wr_own {h h' : Hp} {m l n ns N k L sg r : Nat} (W : WR h m l n ns N k L sg r) (F : Fr (fun a => a = r ∨ a = r + 2 ∨ a = r + 3 ∨ a = r + 4 ∨ a = r + 9 ∨ a = r + 10 ∨ a = r + 11) h h') (n1 : RN h' (r + 1) 6) : WR h' m l n ns N k L sg r ∧ Fr (PR k L r) h h' := by
  have s := W.2.2.2.2.1
  have p := W.1.2.2.2.2.2.2.2
  have s1 := s.1
  have s2 := s.2.1
  have p1 := p.1
  have p2 := p.2.1
  have G : Fr (PR k L r) h h' := F.mono (fun a e => Or.inr (by omega))
  refine ⟨wr_fr W G (rk_fr F (F.2.2.2 k (by omega)).2 W.1.1) (fr_RN F (by omega) (by omega) W.1.2.2.2.2.2.1) n1 (fun o ho => fr_RN F (by have := isr_le ho; omega) (by have := isr_le ho; omega) (W.2.2.2.1 o ho)), G⟩
theorem cr_h {h : Hp} {r n : Nat} {A : RecT} (C : CR h r n A) : hpD h r 1 = A.2 24 0 ∧ hpI h r 3 = A.1 15 0 ∧ hpD h r 4 = A.2 25 0 ∧ hpD h r 5 = A.2 26 0 ∧ hpD h r 6 = A.2 27 0 ∧ hpI h r 7 = A.1 21 0 ∧ hpI h r 8 = A.1 17 0 ∧ hpI h r 9 = A.1 18 0 :=
  ⟨C.1, C.2.1, C.2.2.1, C.2.2.2.1, C.2.2.2.2.1, C.2.2.2.2.2.1, C.2.2.2.2.2.2.1, C.2.2.2.2.2.2.2.1⟩
theorem cr_x {h : Hp} {r n : Nat} {A : RecT} (C : CR h r n A) : ∀ i, i < n → RV h (r + 1) i = A.2 29 i := C.2.2.2.2.2.2.2.2.1
theorem cr_ev {h : Hp} {r n : Nat} {A : RecT} (C : CR h r n A) : hpI h (r + 4) 0 = A.1 16 0 ∧ hpI h (r + 4) 6 = A.1 20 0 ∧ ∀ j, j < 4 → hpI h (r + 5) j = A.1 30 j ∧ hpI h (r + 6) j = A.1 31 j ∧ hpI h (r + 7) j = A.1 32 j ∧ hpI h (r + 8) j = A.1 33 j := ⟨C.2.2.2.2.2.2.2.2.2.1, C.2.2.2.2.2.2.2.2.2.2.1, C.2.2.2.2.2.2.2.2.2.2.2.1⟩
theorem cr_st {h : Hp} {r n : Nat} {A : RecT} (C : CR h r n A) (st : A.1 22 0 = 1) : hpR h (r + 12) 1 = hpR h r 0 ∧ hpI h (r + 12) 2 = A.1 36 0 ∧ SA h (r + 12) n A ∧ hpD h (r + 12) 5 = FP.dadd (A.2 37 0) (A.2 38 0) ∧ (∀ j, j < sgN (tc (A.1 36 0)) → ∀ i, i < n → RV h (r + 12 + (11 + 3 * j)) i = A.2 (100 + j) i) ∧ (tc (A.1 36 0) = 4 → ∀ i, i < n → RV h (r + 12 + 23) i = A.2 104 i) := C.2.2.2.2.2.2.2.2.2.2.2.2.2.2.2.2 st
/-- the state is turned in one variable -/
theorem c_act_106 {h : Hp} {m l n ns N k L sg r w : Nat} {A : RecT} (W : WR h m l n ns N k L sg r) (C : CR h r n A) (hw : w < n) (hn : n ≤ 6) :
    ∃ h', f_X4_act_106 (some r) (nI w) h = some ((), h') ∧ WR h' m l n ns N k L sg r ∧ CR h' r n (uD A 29 (up1 (A.2 29) w (cn (FP.dneg (A.2 29 w))))) ∧ Fr (PR k L r) h h' := by
  have B := W.2.1
  have R := rb_rw B
  have n1 := W.2.2.1
  have F : Fr (fun a => a = r ∨ a = r + 2 ∨ a = r + 3) h (stD h (r + 1 + 1) w (FP.dneg (hpD h (r + 1 + 1) w))) := fr_stD (Fr.refl _ h) (by omega)
  have N1 : RN (stD h (r + 1 + 1) w (FP.dneg (hpD h (r + 1 + 1) w))) (r + 1) 6 := fun i hi => by
    rw [hpI_stD]
    by_cases e : i = w
    · subst e; rw [hpD_stD_self]; exact ⟨nm_dneg.mpr (n1 i hi).1, (n1 i hi).2⟩
    · rw [hpD_stD_ne (Or.inr e)]; exact n1 i hi
  obtain ⟨W', G⟩ := wr_own W (F.mono (fun a e => by omega)) N1
  refine ⟨_, ?_, W', cr_head C F (fun o _ _ _ _ => rfl) (fun o _ _ _ _ h29 => by rw [uD_2, if_neg h29]) ?_ (fun i hi => ?_), G⟩
  · unfold f_X4_act_106 f_X4_act_129
    rw [rb_g2 B, Option.bind_some, rw_g0 R, Option.bind_some, Option.bind_some, rw_g0 R, Option.bind_some, rw_a0 R (by omega) (by omega), Option.bind_some, rw_s0 R (by omega) (by omega), Option.bind_some]
  · have q : ∀ j, hpD (stD h (r + 1 + 1) w (FP.dneg (hpD h (r + 1 + 1) w))) r j = hpD h r j := fun j => hpD_stD_ne (Or.inl (by omega))
    rw [q, q, q, q]
    obtain ⟨e1, e2, e3, e4, e5, e6, e7, e8⟩ := cr_h C
    exact ⟨e1, e2, e3, e4, e5, e6, e7, e8⟩
  · rw [uD_2, if_pos rfl]
    have rx := n1 w (by omega)
    unfold RV
    rw [hpI_stD]
    by_cases e : i = w
    · subst e
      rw [hpD_stD_self, up1_self, ← cr_x C i hi]
      unfold RV
      by_cases z : hpI h (r + 1 + 2) i = 0
      · rw [if_pos z, if_pos z, cn_nm (nm_dneg.mpr rx.1)]
      · rw [if_neg z, if_neg z, cn_no (fun y => nm_nanV (nm_dneg.mp y))]
    · rw [hpD_stD_ne (Or.inr e), up1_ne e, ← cr_x C i hi]; rfl
theorem c_act_40 {h : Hp} {m l n ns N k L sg r j : Nat} {A : RecT} (W : WR h m l n ns N k L sg r) (C : CR h r n A) (hj : j < 4) :
    ∃ h', f_X4_act_40 (some r) (nI j) h = some ((), h') ∧ WR h' m l n ns N k L sg r ∧ CR h' r n (fi5 (fi4 A (A.1 32 j)) n (A.1 32 j) (A.1 33 j)) ∧ Fr (PR k L r) h h' := by
  have B := W.2.1
  have hn : n ≤ 6 := W.1.2.2.1.2.1.2.2.2.1
  have hn1 : 1 ≤ n := W.1.2.2.1.2.1.2.2.1
  obtain ⟨v1, v2, v3, v4⟩ := (cr_ev C).2.2 j hj
  have r0 := W.2.2.2.2.2
  unfold f_X4_act_40
  rw [rb_g10 B, Option.bind_some, rb_e3 B, Option.bind_some, rb_aI B (by omega) (by omega) hj, Option.bind_some, v3]
  by_cases a1 : A.1 32 j = 1
  · rw [if_neg (fun z => z a1), putZ_ok B.1 (Or.inr rfl), Option.bind_some]
    have F : Fr (fun a => a = r ∨ a = r + 2 ∨ a = r + 3) h (stI h r 7 1) := fr_stI (Fr.refl _ h) (Or.inl rfl)
    have N1 : RN (stI h r 7 1) (r + 1) 6 := fr_RN (P := fun a => a = r) (fr_stI (Fr.refl _ h) rfl) (by omega) (by omega) W.2.2.1
    obtain ⟨W', G⟩ := wr_own W (F.mono (fun a e => by omega)) N1
    refine ⟨_, rfl, W', ?_, G⟩
    unfold fi5 fi4
    rw [if_pos a1, if_neg (by rw [a1]; decide)]
    refine cr_head C F (fun o _ _ _ h21 => by rw [uI_1, if_neg h21]) (fun o _ _ _ _ _ => rfl) ?_ (fun i hi => ?_)
    · have q : ∀ i, i ≠ 7 → hpI (stI h r 7 1) r i = hpI h r i := fun i hi => hpI_stI_ne (Or.inr hi)
      obtain ⟨e1, e2, e3, e4, e5, e6, e7, e8⟩ := cr_h C
      exact ⟨e1, by rw [q 3 (by omega)]; exact e2, e3, e4, e5, by rw [hpI_stI_self]; rfl, by rw [q 8 (by omega)]; exact e7, by rw [q 9 (by omega)]; exact e8⟩
    · rw [fr_RV (P := fun a => a = r) (fr_stI (Fr.refl _ h) rfl) (by omega) (by omega)]; exact cr_x C i hi
  · rw [if_pos a1, Option.bind_some, rb_e3 B, Option.bind_some, rb_aI B (by omega) (by omega) hj, Option.bind_some, v3]
    by_cases a2 : A.1 32 j = 2
    · rw [if_neg (fun z => z a2), rb_g0 B, Option.bind_some, r0, Option.bind_some, rb_e4 B, Option.bind_some, rb_aI B (by omega) (by omega) hj, Option.bind_some, v4, lo_ck W.1.2.1, Option.bind_some, c_hasVariable W.1.2.1 W.1.2.2.2.1.2.1, bnd_some]
      unfold fi5 fi4
      rw [if_neg a1, if_pos a2]
      by_cases q : A.1 33 j < 0
      · have e0 : fiw n (A.1 33 j) = 0 := by unfold fiw; rw [if_pos q]
        rw [if_pos q, if_pos rfl, e0]
        exact c_act_106 (w := 0) W C (by omega) hn
      · rw [if_neg q]
        by_cases q2 : nI n ≤ A.1 33 j
        · have e0 : fiw n (A.1 33 j) = 0 := by unfold fiw; rw [if_neg q, if_pos q2]
          rw [if_pos q2, if_pos rfl, e0]
          exact c_act_106 (w := 0) W C (by omega) hn
        · obtain ⟨w, hw, ew⟩ := ni_of3 (n := n) (by omega) (Int32.not_lt.mp q) (Int32.not_le.mp q2)
          have e0 : fiw n (A.1 33 j) = w := by unfold fiw; rw [if_neg q, if_neg q2, ew]; exact ni_cl (by omega)
          rw [if_neg q2, if_neg (by decide), rb_g10 B, Option.bind_some, rb_e4 B, Option.bind_some, rb_aI B (by omega) (by omega) hj, Option.bind_some, v4, e0, ew]
          exact c_act_106 W C hw hn
    · rw [if_pos a2]
      unfold fi5 fi4 f_X4_act_129
      rw [if_neg a1, if_neg a2]
      exact ⟨h, rfl, W, C, Fr.refl _ h⟩
theorem c_act {h : Hp} {m l n ns N k L sg r j : Nat} {A : RecT} {hi : UInt64} (W : WR h m l n ns N k L sg r) (C : CR h r n A) (hj : j < 4) (st : A.1 22 0 = 1) (sb : SB hi) (fh : HB (A.2 38 0)) (nt : Nm (A.2 37 0)) :
    ∃ h', f_X4_act r (nI j) hi h = some ((), h') ∧ WR h' m l n ns N k L sg r ∧ CR h' r n (fi5 (fi4 (fi3 A (hpI h (m + 2) l) hi) (A.1 32 j)) n (A.1 32 j) (A.1 33 j)) ∧ Fr (PR k L r) h h' := by
  have B := W.2.1
  unfold f_X4_act
  by_cases c1 : cl hi FP.dconst1 = 0
  · rw [if_pos c1]
    obtain ⟨h', e, W', C', G⟩ := c_act_40 W C hj
    refine ⟨h', e, W', ?_, G⟩
    unfold fi3; rw [if_pos c1]; exact C'
  · rw [if_neg c1]
    obtain ⟨d1, d2, d3, d4, d5, d6⟩ := cr_st C st
    have WT0 := wr_wt W (by rw [d1]; exact W.2.2.2.2.2)
    have hn := wt_n WT0
    obtain ⟨h1, e1, W1, F1, v1, sa1⟩ := c_blendAll WT0 sb fh d3
    have WR1 := wr_row W i4 F1 W1
    have B1 := WR1.2.1
    have s := W.2.2.2.2.1
    have p := W.1.2.2.2.2.2.2.2
    have ss1 := s.1
    have ss2 := s.2.1
    have p1 := p.1
    have p2 := p.2.1
    have C1 : CR h1 r n A := cr_fr C F1 (fun a h1 h2 h3 h4 h5 z => by
      rcases z with z | z
      · rcases z with z | z | z <;> omega
      · rcases z with z | z <;> omega)
    have cp := c_copy (rb_rw B1) (st_r W1.2.1 i4) (by omega) (W1.2.2.1 4 i4) (by omega) (by omega)
    generalize e2 : cpV h1 (r + 1) (r + 12 + 4) 6 = h2 at cp
    have F2 : Fr (fun a => a = r + 2 ∨ a = r + 3) h1 h2 := by rw [← e2]; exact fr_cpV (Fr.refl _ h1) (by omega) (by omega)
    have N2 : RN h2 (r + 1) 6 := by rw [← e2]; exact RN_cpV (W1.2.2.1 4 i4)
    obtain ⟨WR2, G2⟩ := wr_own WR1 (F2.mono (fun a e => by omega)) N2
    have B2 := WR2.2.1
    have WT2 : WT h2 m l n ns N k L sg (r + 12) := wr_wt WR2 (by rw [F2.2.2.1]; exact W1.2.1.2.2.1)
    have D2 : hpD h2 (r + 12) = hpD h1 (r + 12) := (F2.2.2.2 _ (by omega)).2
    have tm := c_timeAt WT2 (by rw [D2]; exact sa1.1) (by rw [D2]; exact sa1.2.1) nt fh sb
    have F3 : Fr (fun a => a = r ∨ a = r + 2 ∨ a = r + 3) h1 (stD h2 r 1 (thS A hi)) := fr_stD (F2.mono (fun a e => by omega)) (Or.inl rfl)
    have N3 : RN (stD h2 r 1 (thS A hi)) (r + 1) 6 := fr_RN (P := fun a => a = r) (fr_stD (Fr.refl _ h2) rfl) (by omega) (by omega) N2
    obtain ⟨WR3, G3⟩ := wr_own WR1 (F3.mono (fun a e => by omega)) N3
    have C3 : CR (stD h2 r 1 (thS A hi)) r n (uD (uD A 29 (cuS A (hpI h (m + 2) l) hi)) 24 (fun _ => thS A hi)) := by
      refine cr_head C1 F3 (fun o _ _ _ _ => rfl) (fun o h24 _ _ _ h29 => by rw [uD_2, if_neg h24, uD_2, if_neg h29]) ?_ (fun i hi' => ?_)
      · have q : ∀ j, j ≠ 1 → hpD (stD h2 r 1 (thS A hi)) r j = hpD h1 r j := fun j hj => by rw [hpD_stD_ne (Or.inr hj), (F2.2.2.2 r (by omega)).2]
        have q2 : hpI (stD h2 r 1 (thS A hi)) r = hpI h1 r := (F2.2.2.2 r (by omega)).1
        obtain ⟨e1, e2, e3, e4, e5, e6, e7, e8⟩ := cr_h C1
        exact ⟨by rw [hpD_stD_self]; rfl, by rw [q2]; exact e2, by rw [q 4 (by omega)]; exact e3, by rw [q 5 (by omega)]; exact e4, by rw [q 6 (by omega)]; exact e5, by rw [q2]; exact e6, by rw [q2]; exact e7, by rw [q2]; exact e8⟩
      · rw [fr_RV (P := fun a => a = r) (fr_stD (Fr.refl _ h2) rfl) (by omega) (by omega), ← e2, RV_cpV (by omega), v1 i hi']; rfl
    obtain ⟨h', e, W', C', G⟩ := c_act_40 WR3 C3 hj
    refine ⟨h', ?_, W', ?_, (F1.mono (fun a z => pd_pr i4 z)).trans (G3.trans G)⟩
    · rw [rb_g11 B, Option.bind_some, st_ck WT0.2.1, Option.bind_some, e1, bnd_some, rb_g2 B1, Option.bind_some, rb_g11 B1, Option.bind_some, st_g7 W1.2.1, Option.bind_some, rw_ck (rb_rw B1), Option.bind_some, cp, bnd_some, rb_g11 B2, Option.bind_some, st_ck WT2.2.1, Option.bind_some, tm, bnd_some, putD_ok B2.1, Option.bind_some]
      exact e
    · unfold fi3; rw [if_neg c1]; exact C'
