theorem va_t {n : Nat} {A A' : RecT} (h1 : A'.1 22 = A.1 22) (h2 : A'.1 36 = A.1 36) (h3 : ∀ o, 37 ≤ o → A'.2 o = A.2 o) (v : A.1 22 0 = 1 → (∃ M, A.1 36 0 = nI M ∧ M ≤ 6) ∧ (Nm (A.2 37 0) ∧ A.2 37 0 ≠ mz) ∧ (∀ i, i < n → Cv (A.2 39 i) ∧ Cv (A.2 40 i) ∧ Cv (A.2 41 i) ∧ Cv (A.2 42 i) ∧ (∀ j, j < sgN (tc (A.1 36 0)) → Cv (A.2 (100 + j) i)) ∧ (tc (A.1 36 0) = 4 → Cv (A.2 104 i)))) :
    A'.1 22 0 = 1 → (∃ M, A'.1 36 0 = nI M ∧ M ≤ 6) ∧ (Nm (A'.2 37 0) ∧ A'.2 37 0 ≠ mz) ∧ (∀ i, i < n → Cv (A'.2 39 i) ∧ Cv (A'.2 40 i) ∧ Cv (A'.2 41 i) ∧ Cv (A'.2 42 i) ∧ (∀ j, j < sgN (tc (A'.1 36 0)) → Cv (A'.2 (100 + j) i)) ∧ (tc (A'.1 36 0) = 4 → Cv (A'.2 104 i))) := by
  rw [h1, h2, h3 37 (by omega), h3 39 (by omega), h3 40 (by omega), h3 41 (by omega), h3 42 (by omega), h3 104 (by omega)]
  intro z
  obtain ⟨a, b, d⟩ := v z
  refine ⟨a, b, fun i hi => ?_⟩
  obtain ⟨d1, d2, d3, d4, d5, d6⟩ := d i hi
  exact ⟨d1, d2, d3, d4, fun j hj => by rw [h3 (100 + j) (by omega)]; exact d5 j hj, d6⟩
theorem op_length {b : Nat} {h : Hp} {c : Nat} (I0 : INV b h c) (p0 : Int32) (p1 : Int64) (p2 : Int32) : ∃ a h1 h2, f_X8_length c p0 p1 p2 h = some (a, h1) ∧ f_X9_length (c + 66) p0 p1 p2 h1 = some (a, h2) ∧ INV (b + 1) h2 c := by
  have Ib := inv_mono (b' := b + 1) (by omega) I0
  obtain ⟨nl, ns, nr, Lw, nv, nn, Ob, ex, rl, Rc, τ, I⟩ := I0
  have X := I.1.1
  have H := I.1.2.2.2.2.2.2.2
  have nr4 := I.2.1.2.2.1
  unfold f_X8_length f_X9_length f_X8_length_20 f_X9_length_19 f_X8_length_54 f_X9_length_53
  rcases in_cases p0 (N := nr) (by omega) with ⟨s, hs, rfl⟩ | hv
  · obtain ⟨s4, he, hl, si, W⟩ := sl I hs
    have B := W.2.1
    obtain ⟨sd, al, R, C, va, r0⟩ := si
    simp only [xo_ck X, Option.bind_some, c_runAt_ok I hs, bnd_some]
    rw [if_neg (show ¬ some (Ob s) = none by simp)]
    rcases k_cases p2 with ⟨k, hk, rfl⟩ | hv
    · have nq : Nm (qV p1 (nI k)) := (qV_fn (p := p1) hk).nm
      rw [(isK_ok hk h).1, bnd_some, if_pos (by decide), (c_quo hk h).1, bnd_some, c_size nq, bnd_some]
      have rs : ∀ g : Hp, f_X9_size (qV p1 (nI k)) g = some (mk (qV p1 (nI k)), g) := fun g => r_size (Or.inl nq) g
      have nmk : Nm (mk (qV p1 (nI k))) := by
        show (ky _).natAbs ≤ _
        rw [ky_mk]
        have : (ky (qV p1 (nI k))).natAbs ≤ 9218868437227405312 := nq
        omega
      have k1 : ky (4652218415073722368 : UInt64) = 4652218415073722368 := by decide +kernel
      have n1 : Nm (4652218415073722368 : UInt64) := by show (ky _).natAbs ≤ _; rw [k1]; decide
      have rf : ((ab_ck h (some (c + 66)) (9, 0)).bind fun a4 => bnd (f_X9_isRun a4 (nI s) h) fun x1 h2 => if x1 = 0 then some (-1, h2) else bnd (f_X9_in (nI k) 0 30 h2) fun x7 h8 => if ¬ x7 = 0 then bnd (f_X9_number p1 (nI k) h8) fun x11 h12 => bnd (f_X9_size x11 h12) fun x14 h15 => if cg x14 4472074429978902528 < 0 then some (-1, h15) else bnd (f_X9_size x11 h15) fun x18 h19 => if cl x18 4652218415073722368 ≤ 0 then (getR h19 (some (c + 66)) 9 26).bind fun x22 => (astD h19 x22 (nI s) x11).bind fun h23 => some ((1 : Int32), h23) else some (-1, h19) else some (-1, h8)) = if cg (mk (qV p1 (nI k))) 4472074429978902528 < 0 then some (-1, h) else if cl (mk (qV p1 (nI k))) 4652218415073722368 ≤ 0 then some (1, stD h (c + 66 + 25) s (qV p1 (nI k))) else some (-1, h) := by
        rw [ro_ck H, Option.bind_some, r_isRun_ok I hs, bnd_some, if_neg (by decide), (isK_ok hk h).2, bnd_some, if_pos (by decide), (c_quo hk h).2, bnd_some, rs, bnd_some]
        split
        · rfl
        · rw [rs, bnd_some, ro_g26 H, Option.bind_some, ro_s26 H (by omega), Option.bind_some]
      show ∃ a h1 h2, (if 0 < cl (mk (qV p1 (nI k))) 4652218415073722368 then some ((-1 : Int32), h) else _) = some (a, h1) ∧ _ ∧ _
      by_cases z1 : 0 < cl (mk (qV p1 (nI k))) 4652218415073722368
      · rw [if_pos z1]
        refine ⟨_, h, h, rfl, ?_, Ib⟩
        refine rf.trans ?_
        by_cases z2 : cg (mk (qV p1 (nI k))) 4472074429978902528 < 0
        · rw [if_pos z2]
        · rw [if_neg z2, if_neg (Int32.not_le.mpr z1)]
      · rw [if_neg z1, c_isTooSmall, bnd_some]
        by_cases z2 : 0 ≤ cg (mk (qV p1 (nI k))) 4472074429978902528
        · rw [if_pos z2, if_pos rfl, putD_ok B.1, Option.bind_some]
          have F : Fr (fun a => a = Ob s) h (stD h (Ob s) 4 (qV p1 (nI k))) := fr_stD (Fr.refl _ h) rfl
          have b1 := (I.2.2.2.2.2.2.2.2.2.2.2.2 s (by omega) he).1
          have H1 := ro_fr F H
          have i45 : hpI (stD h (Ob s) 4 (qV p1 (nI k))) (c + 66) 45 = nI nr := by rw [ic_I F (by omega)]; exact I.2.1.2.2.2.2.2.2.2.2
          have hb : HB (qV p1 (nI k)) := by
            have := (cl_le_n nmk n1).mp (Int32.not_lt.mp z1)
            rw [ky_mk, k1] at this
            show (ky _).natAbs < _
            omega
          refine ⟨_, _, stD (stD h (Ob s) 4 (qV p1 (nI k))) (c + 66 + 25) s (qV p1 (nI k)), rfl, ?_, ?_⟩
          · rw [ro_ck H1, Option.bind_some, r_isRun_h H1 i45 hs nr4, bnd_some, if_neg (by decide), (isK_ok hk _).2, bnd_some, if_pos (by decide), (c_quo hk _).2, bnd_some, rs, bnd_some]
            refine (if_neg (Int32.not_lt.mpr z2)).trans ?_
            rw [rs, bnd_some]
            refine (if_pos (Int32.not_lt.mp z1)).trans ?_
            rw [ro_g26 H1, Option.bind_some, ro_s26 H1 (by omega), Option.bind_some]
          · refine op_hd I hs (A := uD (Rc s) 25 (fun _ => qV p1 (nI k))) F (fun a e => by omega) ?_ (fs_stD _ (Or.inl ⟨by omega, by omega, rfl⟩)) rfl (fun R1 => rr_D1 _ (by omega) (by omega) R1) ?_ ?_
            · exact rn_fx (F.fx (Q := fun _ => False)) (by omega) (by omega) W.2.2.1
            · obtain ⟨e1, e2, e3, e4, e5, e6, e7, e8⟩ := cr_h C
              refine cr_head C (F.mono (fun a e => by omega)) (fun o _ _ _ _ => rfl) (fun o _ h25 _ _ _ => by rw [uD_2, if_neg h25]) ⟨?_, e2, hpD_stD_self _ _ _ _, ?_, ?_, e6, e7, e8⟩ (fun i hi => ?_)
              · rw [hpD_stD_ne (Or.inr (by omega))]; exact e1
              · rw [hpD_stD_ne (Or.inr (by omega))]; exact e4
              · rw [hpD_stD_ne (Or.inr (by omega))]; exact e5
              · rw [fr_RV F (by omega) (by omega)]; exact cr_x C i hi
            · obtain ⟨v1, v2, v3, v4, v5, v6, v7, v8, v9, v10, v11, v12, v13, v14, v15⟩ := va
              exact ⟨v1, v2, v3, v4, v5, v6, v7, hb, v9, v10, v11, v12, v13, v14, va_t (A := Rc s) rfl rfl (fun o ho => by rw [uD_2, if_neg (by omega)]) v15⟩
        · rw [if_neg z2, if_neg (by decide)]
          refine ⟨_, h, h, rfl, ?_, Ib⟩
          refine rf.trans ?_
          rw [if_pos (Int32.not_le.mp z2)]
    · refine ⟨-1, h, h, ?_, ?_, Ib⟩
      · rw [(isK_no hv h).1, bnd_some, if_neg (by decide)]
      · rw [ro_ck H, Option.bind_some, r_isRun_ok I hs, bnd_some, if_neg (by decide), (isK_no hv h).2, bnd_some, if_neg (by decide)]
  · simp only [xo_ck X, Option.bind_some, c_runAt_no I hv, bnd_some]
    rw [if_pos trivial]
    refine ⟨_, h, h, rfl, ?_, Ib⟩
    rw [ro_ck H, Option.bind_some, r_isRun_no I hv, bnd_some, if_pos rfl]
theorem op_tolerance {b : Nat} {h : Hp} {c : Nat} (I0 : INV b h c) (p0 : Int32) (p1 p2 : Int64) (p3 : Int32) : ∃ a h1 h2, f_X8_tolerance c p0 p1 p2 p3 h = some (a, h1) ∧ f_X9_tolerance (c + 66) p0 p1 p2 p3 h1 = some (a, h2) ∧ INV (b + 1) h2 c := by
  have Ib := inv_mono (b' := b + 1) (by omega) I0
  obtain ⟨nl, ns, nr, Lw, nv, nn, Ob, ex, rl, Rc, τ, I⟩ := I0
  have X := I.1.1
  have H := I.1.2.2.2.2.2.2.2
  have nr4 := I.2.1.2.2.1
  unfold f_X8_tolerance f_X9_tolerance f_X8_tolerance_33 f_X9_tolerance_32
  rcases in_cases p0 (N := nr) (by omega) with ⟨s, hs, rfl⟩ | hv
  · obtain ⟨s4, he, hl, si, W⟩ := sl I hs
    have B := W.2.1
    obtain ⟨sd, al, R, C, va, r0⟩ := si
    simp only [xo_ck X, Option.bind_some, c_runAt_ok I hs, bnd_some]
    rw [if_neg (show ¬ some (Ob s) = none by simp)]
    rcases k_cases p3 with ⟨k, hk, rfl⟩ | hv
    · rw [(isK_ok hk h).1, bnd_some, if_neg (by decide)]
      by_cases z1 : lg_cmp p1 1 < 0
      · rw [if_pos z1]
        refine ⟨_, h, h, rfl, ?_, Ib⟩
        rw [ro_ck H, Option.bind_some, r_isRun_ok I hs, bnd_some, if_neg (by decide), (isK_ok hk h).2, bnd_some, if_neg (by decide), if_pos z1]
      · rw [if_neg z1]
        by_cases z2 : 0 ≤ lg_cmp p2 0
        · have K1 : hpK (stD h (Ob s) 5 (qV p1 (nI k))) (Ob s) = some (4, 0) := B.1
          rw [if_pos z2, (c_quo hk h).1, bnd_some, putD_ok B.1, Option.bind_some, (c_quo hk _).1, bnd_some, putD_ok K1, Option.bind_some]
          have F : Fr (fun a => a = Ob s) h (stD (stD h (Ob s) 5 (qV p1 (nI k))) (Ob s) 6 (qV p2 (nI k))) := fr_stD (fr_stD (Fr.refl _ h) rfl) rfl
          have b1 := (I.2.2.2.2.2.2.2.2.2.2.2.2 s (by omega) he).1
          have H1 := ro_fr F H
          have i45 : hpI (stD (stD h (Ob s) 5 (qV p1 (nI k))) (Ob s) 6 (qV p2 (nI k))) (c + 66) 45 = nI nr := by rw [ic_I F (by omega)]; exact I.2.1.2.2.2.2.2.2.2.2
          have H2 : RO (stD (stD (stD h (Ob s) 5 (qV p1 (nI k))) (Ob s) 6 (qV p2 (nI k))) (c + 66 + 26) s (qV p1 (nI k))) (c + 66) := ro_fr (fr_stD (P := fun _ => True) (Fr.refl _ _) trivial) H1
          refine ⟨_, _, stD (stD (stD (stD h (Ob s) 5 (qV p1 (nI k))) (Ob s) 6 (qV p2 (nI k))) (c + 66 + 26) s (qV p1 (nI k))) (c + 66 + 27) s (qV p2 (nI k)), rfl, ?_, ?_⟩
          · rw [ro_ck H1, Option.bind_some, r_isRun_h H1 i45 hs nr4, bnd_some, if_neg (by decide), (isK_ok hk _).2, bnd_some, if_neg (by decide), if_neg z1, if_pos z2, ro_g27 H1, Option.bind_some, (c_quo hk _).2, bnd_some, ro_s27 H1 (by omega), Option.bind_some, ro_g28 H2, Option.bind_some, (c_quo hk _).2, bnd_some, ro_s28 H2 (by omega), Option.bind_some]
          · refine op_hd I hs (A := uD (uD (Rc s) 26 (fun _ => qV p1 (nI k))) 27 (fun _ => qV p2 (nI k))) F (fun a e => by omega) ?_ ((fs_stD _ (Or.inl ⟨by omega, by omega, rfl⟩)).trans (fs_stD _ (Or.inl ⟨by omega, by omega, rfl⟩))) rfl (fun R1 => rr_D1 _ (by omega) (by omega) (rr_D1 _ (by omega) (by omega) R1)) ?_ ?_
            · exact rn_fx (F.fx (Q := fun _ => False)) (by omega) (by omega) W.2.2.1
            · obtain ⟨e1, e2, e3, e4, e5, e6, e7, e8⟩ := cr_h C
              refine cr_head C (F.mono (fun a e => by omega)) (fun o _ _ _ _ => rfl) (fun o _ _ h26 h27 _ => by rw [uD_2, if_neg h27, uD_2, if_neg h26]) ⟨?_, e2, ?_, ?_, hpD_stD_self _ _ _ _, e6, e7, e8⟩ (fun i hi => ?_)
              · rw [hpD_stD_ne (Or.inr (by omega)), hpD_stD_ne (Or.inr (by omega))]; exact e1
              · rw [hpD_stD_ne (Or.inr (by omega)), hpD_stD_ne (Or.inr (by omega))]; exact e3
              · rw [hpD_stD_ne (Or.inr (by omega)), hpD_stD_self]; rfl
              · rw [fr_RV F (by omega) (by omega)]; exact cr_x C i hi
            · obtain ⟨v1, v2, v3, v4, v5, v6, v7, v8, v9, v10, v11, v12, v13, v14, v15⟩ := va
              have t1 : 0 < p1.toInt := by
                rw [lg_cmp_lt] at z1
                have := Int64.not_lt.mp z1
                rw [Int64.le_iff_toInt_le] at this
                have e : (1 : Int64).toInt = 1 := by decide
                omega
              have t2 : 0 ≤ p2.toInt := by
                rw [lg_cmp_ge] at z2
                rw [Int64.le_iff_toInt_le] at z2
                have e : (0 : Int64).toInt = 0 := by decide
                omega
              exact ⟨v1, v2, v3, v4, v5, v6, v7, v8, ⟨qV_fn hk, (qV_b hk).2.2.1 t1⟩, ⟨qV_fn hk, (qV_b hk).2.2.2 t2⟩, v11, v12, v13, v14, va_t (A := Rc s) rfl rfl (fun o ho => by rw [uD_2, if_neg (by omega), uD_2, if_neg (by omega)]) v15⟩
        · rw [if_neg z2]
          refine ⟨_, h, h, rfl, ?_, Ib⟩
          rw [ro_ck H, Option.bind_some, r_isRun_ok I hs, bnd_some, if_neg (by decide), (isK_ok hk h).2, bnd_some, if_neg (by decide), if_neg z1, if_neg z2]
    · refine ⟨-1, h, h, ?_, ?_, Ib⟩
      · rw [(isK_no hv h).1, bnd_some, if_pos (by decide)]
      · rw [ro_ck H, Option.bind_some, r_isRun_ok I hs, bnd_some, if_neg (by decide), (isK_no hv h).2, bnd_some, if_pos (by decide)]
  · simp only [xo_ck X, Option.bind_some, c_runAt_no I hv, bnd_some]
    rw [if_pos trivial]
    refine ⟨_, h, h, rfl, ?_, Ib⟩
    rw [ro_ck H, Option.bind_some, r_isRun_no I hv, bnd_some, if_pos rfl]
