/-! ===== the class finds where an event comes ===== -/
theorem wr_LE {h h' : Hp} {m l n ns N k L sg r : Nat} (W : WR h m l n ns N k L sg r) (F : Fr (PR k L r) h h') : LE h h' m := fr_LE F (fun _ h1 h2 => pr_bd W (Or.inl ⟨h1, h2⟩))
/-- a node's value at a state in a row -/
theorem nv_at {h0 h : Hp} {m l n ns N : Nat} {t : UInt64} {x y : Nat → UInt64} (X : SX h0 m l n ns N) (le : LE h0 h m) (hxy : ∀ j, j < n → x j = y j) {q : Nat} (hq : q < N) : nvR h m l N t x q = nvR h0 m l N t y q := by
  rw [le_nvR le]
  exact nvR_dep X.2.1 X.2.2.1 hxy (fun _ => 0) q hq
theorem c_search {h0 : Hp} {m l n ns N k L sg r q : Nat} {A : RecT} {turn : Int32} {ris : Bool} (W0 : WR h0 m l n ns N k L sg r) (hq : q < N) (ht : turn = if ris = true then 1 else -1) (fh : HB (A.2 38 0)) (nt : Nm (A.2 37 0)) (sa : SA h0 (r + 12) n A) (WT0 : WT h0 m l n ns N k L sg (r + 12)) :
    ∀ (d κ fuel : Nat) (lo hi : UInt64) (h : Hp), κ + d = 30 → d < fuel → WT h m l n ns N k L sg (r + 12) → Fr (Pd k L (r + 12 + 4)) h0 h → PL lo → PL hi →
      ∃ h', f_X4_search_8 fuel (some r) (nI q) turn lo hi (nI κ) h = some (bsS (vaS (nvR h0 m l N) A (hpI h0 (m + 2) l) q) ris d lo hi, h') ∧ WT h' m l n ns N k L sg (r + 12) ∧ Fr (Pd k L (r + 12 + 4)) h0 h' := by
  have hN := wt_N WT0
  intro d
  induction d with
  | zero =>
    intro κ fuel lo hi h hκ hf W F pl ph
    obtain ⟨fuel, rfl⟩ : ∃ j, fuel = j + 1 := ⟨fuel - 1, by omega⟩
    have : κ = 30 := by omega
    subst this
    rw [f_X4_search_8, if_pos (by decide)]
    exact ⟨h, rfl, W, F⟩
  | succ d ih =>
    intro κ fuel lo hi h hκ hf W F pl ph
    obtain ⟨fuel, rfl⟩ : ∃ j, fuel = j + 1 := ⟨fuel - 1, by omega⟩
    obtain ⟨p1, p2, pm⟩ := pl_mid pl ph
    have B := fr_RB F W0.2.1
    have sah : SA h (r + 12) n A := ⟨by rw [wt_TD WT0 i4 F]; exact sa.1, by rw [wt_TD WT0 i4 F]; exact sa.2.1, fun i hi' => by rw [wt_RV WT0 i4 F i1 (by omega), wt_RV WT0 i4 F i7 (by omega), wt_RV WT0 i4 F i11 (by omega), wt_RV WT0 i4 F i26 (by omega)]; exact sa.2.2 i hi'⟩
    obtain ⟨h2, e2, W2, F2, v2, sa2⟩ := c_blendAll W pm.sb fh sah
    have F02 := F.trans F2
    have B2 := fr_RB F02 W0.2.1
    have r0 : hpR h2 r 0 = some L := by rw [F02.2.2.1]; exact W0.2.2.2.2.2
    obtain ⟨b1, b2, b3, b4, b5, b6, b7, b8, b9⟩ := sb_all pm.sb fh
    have tm := c_timeAt W2 sa2.1 sa2.2.1 nt fh pm.sb
    have ntm : Nm (FP.dadd (A.2 37 0) (FP.dmul (FP.ddiv (FP.dadd lo hi) 4611686018427387904) (A.2 38 0))) := add_nm2 nt b5
    obtain ⟨h3, e3, F3, E3, v3⟩ := c_reckonNodes (E' := q + 1) W2.1 (st_r W2.2.1 i4) (W2.2.2.1 4 i4) (by omega) ntm (pd_n W2 i4 (Or.inl rfl)).2 (pd_n W2 i4 (Or.inr rfl)).2
    have W3 := wt_pn W2 F3 E3
    have F03 := F02.trans (F3.mono (fun a p => Or.inl p))
    have B3 := fr_RB F03 W0.2.1
    have r03 : hpR h3 r 0 = some L := by rw [F03.2.2.1]; exact W0.2.2.2.2.2
    have val : RV h3 (L + 6) q = vaS (nvR h0 m l N) A (hpI h0 (m + 2) l) q (FP.ddiv (FP.dadd lo hi) 4611686018427387904) := by
      rw [v3 q (by omega)]
      unfold vaS
      refine nv_at WT0.1.2.2.1 (wt_LE WT0 i4 F02) (fun j hj => ?_) hq
      rw [v2 j hj, wt_nar WT0 i4 F]
    have sgn := c_signOf E3.2.1 E3.2.2.2.2.2.1 (show q < 48 by omega)
    rw [val] at sgn
    rw [f_X4_search_8, if_neg (by rw [li30, ni_le (by omega) (by omega)]; omega), fop_ok p1, Option.bind_some, fop_ok p2, Option.bind_some, rb_g11 B, Option.bind_some, st_ck W.2.1, Option.bind_some, e2, bnd_some, rb_g0 B2, Option.bind_some, r0, rb_g11 B2, Option.bind_some, st_ck W2.2.1, Option.bind_some, tm, bnd_some, rb_g11 B2, Option.bind_some, st_g7 W2.2.1, Option.bind_some, lo_ck W2.1.2.1, Option.bind_some, li1, ni_add, e3, bnd_some, rb_g0 B3, Option.bind_some, r03, lo_ck W3.1.2.1, Option.bind_some, sgn, bnd_some]
    obtain ⟨hh, eh, Wh, Fh⟩ := ih (κ + 1) fuel lo (FP.ddiv (FP.dadd lo hi) 4611686018427387904) h3 (by omega) (by omega) W3 F03 pl pm
    obtain ⟨hl, el, Wl, Fl⟩ := ih (κ + 1) fuel (FP.ddiv (FP.dadd lo hi) 4611686018427387904) hi h3 (by omega) (by omega) W3 F03 pm ph
    have go_hi : f_X4_search_81 (f_X4_search_8 fuel) (some r) (nI q) turn lo (nI κ) (FP.ddiv (FP.dadd lo hi) 4611686018427387904) h3 = some (bsS (vaS (nvR h0 m l N) A (hpI h0 (m + 2) l) q) ris d lo (FP.ddiv (FP.dadd lo hi) 4611686018427387904), hh) := by
      unfold f_X4_search_81 f_X4_search_91
      rw [li1, ni_add]; exact eh
    have go_lo : f_X4_search_91 (f_X4_search_8 fuel) (some r) (nI q) turn (FP.ddiv (FP.dadd lo hi) 4611686018427387904) hi (nI κ) h3 = some (bsS (vaS (nvR h0 m l N) A (hpI h0 (m + 2) l) q) ris d (FP.ddiv (FP.dadd lo hi) 4611686018427387904) hi, hl) := by
      unfold f_X4_search_91
      rw [li1, ni_add]; exact el
    rw [bsS]
    generalize hV : vaS (nvR h0 m l N) A (hpI h0 (m + 2) l) q (FP.ddiv (FP.dadd lo hi) 4611686018427387904) = V at *
    by_cases s0 : sgo V = 0
    · have nc : ¬ ((ris = true ∧ cl V FP.dconst0 < 0) ∨ (ris = false ∧ 0 < cg V FP.dconst0)) := by
        rintro (z | z)
        · exact sgo_ge.mp (Or.inl s0) z.2
        · exact sgo_le.mp (Or.inl s0) z.2
      rw [if_pos s0, if_neg nc, go_hi]
      exact ⟨hh, rfl, Wh, Fh⟩
    · rw [if_neg s0]
      by_cases s1 : sgo V = turn
      · have nc : ¬ ((ris = true ∧ cl V FP.dconst0 < 0) ∨ (ris = false ∧ 0 < cg V FP.dconst0)) := by
          rintro (z | z)
          · exact sgo_ge.mp (Or.inr (by rw [s1, ht, if_pos z.1])) z.2
          · exact sgo_le.mp (Or.inr (by rw [s1, ht, if_neg (by rw [z.1]; decide)])) z.2
        rw [if_neg (fun z => z s1), if_neg nc, go_hi]
        exact ⟨hh, rfl, Wh, Fh⟩
      · have yc : (ris = true ∧ cl V FP.dconst0 < 0) ∨ (ris = false ∧ 0 < cg V FP.dconst0) := by
          cases ris with
          | true =>
            left; refine ⟨rfl, Classical.byContradiction fun z => ?_⟩
            rcases sgo_ge.mpr z with w | w
            · exact s0 w
            · exact s1 (by rw [w, ht]; rfl)
          | false =>
            right; refine ⟨rfl, Classical.byContradiction fun z => ?_⟩
            rcases sgo_le.mpr z with w | w
            · exact s0 w
            · exact s1 (by rw [w, ht]; rfl)
        rw [if_pos s1, if_pos yc, go_lo]
        exact ⟨hl, rfl, Wl, Fl⟩
theorem c_highOf {h : Hp} {m l n ns N k L sg r q j : Nat} {A : RecT} {way : Int32} (W0 : WR h m l n ns N k L sg r) (eL : hpR h (r + 12) 1 = some L) (hj : j < 4) (eq : hpI h (r + 5) j = nI q) (ew : hpI h (r + 6) j = way) (hq : q < N) (fh : HB (A.2 38 0)) (nt : Nm (A.2 37 0)) (tz : A.2 37 0 ≠ mz) (sa : SA h (r + 12) n A) (ee : hpD h (r + 12) 5 = FP.dadd (A.2 37 0) (A.2 38 0)) :
    ∃ h', f_X4_highOf r (nI j) h = some (hvS (vaS (nvR h m l N) A (hpI h (m + 2) l) q) way, h') ∧ WT h' m l n ns N k L sg (r + 12) ∧ Fr (Pd k L (r + 12 + 4)) h h' := by
  have W := wr_wt W0 eL
  have hN := wt_N W
  have B := W0.2.1
  have r0 := W0.2.2.2.2.2
  obtain ⟨h1, e1, F1, E1, v1⟩ := c_reckonNodes (E' := q + 1) (xr := r + 12 + 1) (t := A.2 37 0) W.1 (st_r W.2.1 i1) (W.2.2.1 1 i1) (by omega) nt (pd_n W i1 (Or.inl rfl)).2 (pd_n W i1 (Or.inr rfl)).2
  have W1 := wt_pn W F1 E1
  have G1 : Fr (Pd k L (r + 12 + 4)) h h1 := F1.mono (fun a p => Or.inl p)
  have B1 := fr_RB F1 B
  have nen : Nm (FP.dadd (A.2 37 0) (A.2 38 0)) := add_nm2 nt fh.fn
  obtain ⟨h2, e2, F2, E2, v2⟩ := c_reckonNodes (E' := q + 1) (xr := r + 12 + 7) (t := FP.dadd (A.2 37 0) (A.2 38 0)) W1.1 (st_r W1.2.1 i7) (W1.2.2.1 7 i7) (by omega) nen (pd_n W1 i7 (Or.inl rfl)).2 (pd_n W1 i7 (Or.inr rfl)).2
  have W2 := wt_pn W1 F2 E2
  have G2 : Fr (Pd k L (r + 12 + 4)) h h2 := G1.trans (F2.mono (fun a p => Or.inl p))
  have B2 := fr_RB G2 B
  have va : RV h1 (L + 6) q = vaS (nvR h m l N) A (hpI h (m + 2) l) q FP.dconst0 := by
    rw [v1 q (by omega), va_0 nt tz fh]
    exact nv_at W.1.2.2.1 (LE.refl h m) (fun i hi => (sa.2.2 i hi).1) hq
  have vb : RV h2 (L + 6) q = vaS (nvR h m l N) A (hpI h (m + 2) l) q FP.dconst1 := by
    rw [v2 q (by omega), va_1 fh]
    exact nv_at W.1.2.2.1 (wt_LE W i4 G1) (fun i hi => by rw [wt_RV W i4 G1 i7 (by omega)]; exact (sa.2.2 i hi).2.1) hq
  have s1 := c_signOf E1.2.1 E1.2.2.2.2.2.1 (show q < 48 by omega)
  have s2 := c_signOf E2.2.1 E2.2.2.2.2.2.1 (show q < 48 by omega)
  rw [va] at s1
  rw [vb] at s2
  have ew2 : hpI h2 (r + 6) j = way := by
    rw [(G2.2.2.2 (r + 6) (fun z => ?_)).1]; exact ew
    have p := W0.1.2.2.2.2.2.2.2
    have s := W0.2.2.2.2.1
    have p1 := p.1
    have s1 := s.1
    have s2 := s.2.1
    rcases z with z | z
    · rcases z with z | z | z <;> omega
    · rcases z with z | z <;> omega
  have tr := c_turn (a := vaS (nvR h m l N) A (hpI h (m + 2) l) q FP.dconst0) (b := vaS (nvR h m l N) A (hpI h (m + 2) l) q FP.dconst1) B2 hj ew2
  have sa2 : SA h2 (r + 12) n A := ⟨by rw [wt_TD W i4 G2]; exact sa.1, by rw [wt_TD W i4 G2]; exact sa.2.1, fun i hi' => by rw [wt_RV W i4 G2 i1 (by omega), wt_RV W i4 G2 i7 (by omega), wt_RV W i4 G2 i11 (by omega), wt_RV W i4 G2 i26 (by omega)]; exact sa.2.2 i hi'⟩
  have WR2 := wr_row W0 i4 G2 W2
  have le2 := wt_LE W i4 G2
  have ee1 : hpD h1 (r + 12) 5 = FP.dadd (A.2 37 0) (A.2 38 0) := by rw [wt_TD W i4 G1]; exact ee
  have r01 : hpR h1 r 0 = some L := by rw [G1.2.2.1]; exact r0
  have r02 : hpR h2 r 0 = some L := by rw [G2.2.2.1]; exact r0
  have start : f_X4_highOf r (nI j) h = (if ¬ tuV (vaS (nvR h m l N) A (hpI h (m + 2) l) q FP.dconst0) (vaS (nvR h m l N) A (hpI h (m + 2) l) q FP.dconst1) way = 0 then bnd (f_X4_search r (nI q) (tuV (vaS (nvR h m l N) A (hpI h (m + 2) l) q FP.dconst0) (vaS (nvR h m l N) A (hpI h (m + 2) l) q FP.dconst1) way) h2) fun x43 h44 => f_X4_highOf_104 x43 h44 else f_X4_highOf_104 4611686018427387904 h2) := by
    unfold f_X4_highOf
    rw [rb_g10 B, Option.bind_some, rb_e1 B, Option.bind_some, rb_aI B (by omega) (by omega) hj, Option.bind_some, eq, rb_g0 B, Option.bind_some, r0, rb_g11 B, Option.bind_some, st_gd W.2.1, Option.bind_some, sa.1, Option.bind_some, st_g6 W.2.1, Option.bind_some, lo_ck W.1.2.1, Option.bind_some, li1, ni_add, e1, bnd_some, rb_g0 B1, Option.bind_some, r01, lo_ck W1.1.2.1, Option.bind_some, s1, bnd_some, rb_g0 B1, Option.bind_some, r01, rb_g11 B1, Option.bind_some, st_gd W1.2.1, Option.bind_some, ee1, Option.bind_some, st_g8 W1.2.1, Option.bind_some, lo_ck W1.1.2.1, Option.bind_some, e2, bnd_some, rb_g10 B2, Option.bind_some, rb_g0 B2, Option.bind_some, r02, lo_ck W2.1.2.1, Option.bind_some, s2, bnd_some, rb_ec B2, Option.bind_some, tr, bnd_some, rb_ck B2, Option.bind_some]
  rw [start]
  unfold f_X4_search
  have nE : nvR h2 m l N = nvR h m l N := le_nvR le2
  have nN : hpI h2 (m + 2) l = hpI h (m + 2) l := le_nar le2
  have srch : ∀ ris : Bool, ∃ h', f_X4_search_8 fuelN (some r) (nI q) (if ris = true then 1 else -1) FP.dconst0 FP.dconst1 0 h2 = some (bsS (vaS (nvR h m l N) A (hpI h (m + 2) l) q) ris 30 FP.dconst0 FP.dconst1, h') ∧ WT h' m l n ns N k L sg (r + 12) ∧ Fr (Pd k L (r + 12 + 4)) h h' := fun ris => by
    obtain ⟨h', e, W', F'⟩ := c_search (ris := ris) WR2 hq rfl fh nt sa2 W2 30 0 fuelN FP.dconst0 FP.dconst1 h2 (by omega) (by unfold fuelN; omega) W2 (Fr.refl _ h2) pl_0 pl_1
    rw [nE, nN] at e
    exact ⟨h', e, W', G2.trans F'⟩
  unfold tuV hvS
  by_cases c1 : risP (vaS (nvR h m l N) A (hpI h (m + 2) l) q FP.dconst0) (vaS (nvR h m l N) A (hpI h (m + 2) l) q FP.dconst1) way
  · obtain ⟨h', e, W', F'⟩ := srch true
    rw [if_pos rfl] at e
    rw [if_pos c1, if_pos c1, if_pos (by decide), e, bnd_some]
    exact ⟨h', rfl, W', F'⟩
  · rw [if_neg c1, if_neg c1]
    by_cases c2 : falP (vaS (nvR h m l N) A (hpI h (m + 2) l) q FP.dconst0) (vaS (nvR h m l N) A (hpI h (m + 2) l) q FP.dconst1) way
    · obtain ⟨h', e, W', F'⟩ := srch false
      rw [if_neg (by decide)] at e
      rw [if_pos c2, if_pos c2, if_pos (by decide), e, bnd_some]
      exact ⟨h', rfl, W', F'⟩
    · rw [if_neg c2, if_neg c2, if_neg (by decide)]
      exact ⟨h2, rfl, W2, G2⟩
