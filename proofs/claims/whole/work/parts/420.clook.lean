/-! ===== the class looks at all events ===== -/
theorem pl_nm {s : UInt64} (h : PL s) : Nm s := by
  have k := ky_1; have h1 := h.1; have h2 := h.2.1
  show (ky s).natAbs ≤ _; omega
theorem r_ne {h : Hp} {m l n ns N k L sg r a : Nat} (W : WR h m l n ns N k L sg r) (h1 : r ≤ a) (h2 : a < r + 41) : ¬ Pn k L a := by
  have s := W.2.2.2.2.1
  have p := W.1.2.2.2.2.2.2.2
  have s1 := s.1
  have s2 := s.2.1
  have p1 := p.1
  rintro (z | z | z) <;> omega
theorem c_look_35 {h0 : Hp} {m l n ns N k L sg r ne : Nat} (hn4 : ne ≤ 4) (W0 : WR h0 m l n ns N k L sg r) :
    ∀ (d κ fuel f : Nat) (A : RecT) (hv : Nat → UInt64) (h : Hp), κ + d = ne → d < fuel → WR h m l n ns N k L sg r → CR h r n A → Fr (PR k L r) h0 h → A.1 22 0 = 1 → A.1 16 0 = nI ne → A.1 20 0 = nI f → f + d < 1000000 → HB (A.2 38 0) → Nm (A.2 37 0) → (∀ j, j < ne → hpD h (r + 9) j = hv j) → (∀ j, j < ne → PL (hv j) ∨ hv j = c2) →
      ∃ h', f_X4_lookAtEvents_35 fuel (some r) (nI κ) h = some ((), h') ∧ WR h' m l n ns N k L sg r ∧ CR h' r n (evL (hpI h0 (m + 2) l) n ne d hv A) ∧ Fr (PR k L r) h0 h' := by
  intro d
  induction d with
  | zero =>
    intro κ fuel f A hv h hκ hf W C F st en ef hfd fh nt hh hp
    obtain ⟨fuel, rfl⟩ : ∃ j, fuel = j + 1 := ⟨fuel - 1, by omega⟩
    rw [f_X4_lookAtEvents_35, rb_g10 W.2.1, Option.bind_some, rb_ei W.2.1, Option.bind_some, (cr_ev C).1, en, if_pos ((ni_le (by omega) (by omega)).mpr (by omega))]
    exact ⟨h, rfl, W, C, F⟩
  | succ d ih =>
    intro κ fuel f A hv h hκ hf W C F st en ef hfd fh nt hh hp
    obtain ⟨fuel, rfl⟩ : ∃ j, fuel = j + 1 := ⟨fuel - 1, by omega⟩
    have B := W.2.1
    have ee : hpI h (r + 4) 0 = nI ne := by rw [(cr_ev C).1, en]
    have nv : ∀ j, j < ne → Nm (hv j) := fun j hj => (hp j hj).elim pl_nm (fun e => by rw [e]; exact fn_c2.nm)
    have ear := c_earliest B ee hn4 (fun j hj => ⟨hh j hj, nv j hj⟩)
    rw [f_X4_lookAtEvents_35, rb_g10 B, Option.bind_some, rb_ei B, Option.bind_some, ee, if_neg (by rw [ni_le (by omega) (by omega)]; omega), Option.bind_some, rb_ec B, Option.bind_some, ear, bnd_some]
    rw [evL]
    cases ep : pkS hv ne with
    | none =>
      show ∃ h', (if (0 : Int32) ≤ -1 then _ else some ((), h)) = some ((), h') ∧ _
      rw [if_neg (by decide)]
      exact ⟨h, rfl, W, C, F⟩
    | some j =>
      obtain ⟨hj, hlt⟩ := pkS_some ep
      have pj : PL (hv j) := (hp j hj).resolve_right (fun e => by rw [e] at hlt; omega)
      obtain ⟨d1, d2, d3, d4, d5, d6⟩ := cr_st C st
      have WT0 := wr_wt W (by rw [d1]; exact W.2.2.2.2.2)
      have tm := c_timeAt WT0 d3.1 d3.2.1 nt fh pj.sb
      have e6 : hpI h (r + 4) 6 = nI f := by rw [(cr_ev C).2.1, ef]
      have fire := c_fire (t := thS A (hv j)) B (show j < 4 by omega) e6 (by omega)
      have F3 := fr_fiH (h := h) (r := r) (j := j) (f := f) (t := thS A (hv j))
      have C3 := cr_fire (j := j) (hi := hv j) C ef (by omega)
      have N3 : RN (fiH h r j f (thS A (hv j))) (r + 1) 6 := fr_RN F3 (by omega) (by omega) W.2.2.1
      obtain ⟨W3, G3⟩ := wr_own W (F3.mono (fun a e => by omega)) N3
      have B3 := W3.2.1
      have a7 : hpI (fiH h r j f (thS A (hv j))) (r + 7) j = A.1 32 j := by rw [(F3.2.2.2 (r + 7) (by omega)).1]; exact ((cr_ev C).2.2 j (by omega)).2.2.1
      have h9 : ∀ q, hpD (fiH h r j f (thS A (hv j))) (r + 9) q = if q = j then c2 else hpD h (r + 9) q := fun q => by
        unfold fiH
        rw [hpD_stI]
        split
        · by_cases e : q = j
          · subst e; rw [hpD_stD_self, if_pos rfl]
          · rw [hpD_stD_ne (Or.inr e), if_neg e]
        · rw [hpD_stD_ne (Or.inl (by omega)), hpD_stI]
          by_cases e : q = j
          · subst e; rw [hpD_stD_self, if_pos rfl]
          · rw [hpD_stD_ne (Or.inr e), if_neg e]
      generalize eh3 : fiH h r j f (thS A (hv j)) = h3 at *
      show ∃ h', (if (0 : Int32) ≤ nI j then _ else some ((), h)) = some ((), h') ∧ _
      rw [if_pos (by rw [li0, ni_le (by omega) (by omega)]; omega), rb_g10 B, Option.bind_some, rb_e5 B, Option.bind_some, show nxV (some j) = nI j from rfl, rb_a9 B (by omega), Option.bind_some, hh j hj, Option.bind_some, rb_g11 B, Option.bind_some, st_ck WT0.2.1, Option.bind_some, tm, bnd_some, rb_ec B, Option.bind_some, show FP.dadd (A.2 37 0) (FP.dmul (hv j) (A.2 38 0)) = thS A (hv j) from rfl, fire, bnd_some, rb_g10 B3, Option.bind_some, rb_e3 B3, Option.bind_some, rb_aI B3 (by omega) (by omega) (by omega), Option.bind_some, a7]
      show ∃ h', _ ∧ _ ∧ CR h' r n (if A.1 32 j = 0 then evL (hpI h0 (m + 2) l) n ne d (up1 hv j c2) (fiS A (hpI h0 (m + 2) l) n j (hv j)) else fiS A (hpI h0 (m + 2) l) n j (hv j)) ∧ _
      by_cases a0 : A.1 32 j = 0
      · rw [if_pos a0, if_pos a0]
        have fe : fiS A (hpI h0 (m + 2) l) n j (hv j) = fi2 (fi1 A j (hv j)) := by unfold fiS; rw [if_pos a0]
        have b1 : ∀ o, o ≠ 34 → o ≠ 20 → (fi2 (fi1 A j (hv j))).1 o = A.1 o := fun o h1 h2 => by rw [fi2_1 h2, fi1_1 h1]
        have b2 : ∀ o, o ≠ 35 → (fi2 (fi1 A j (hv j))).2 o = A.2 o := fun o h1 => fi1_2 h1
        have b3 : (fi2 (fi1 A j (hv j))).1 20 0 = nI (f + 1) := by
          unfold fi2; rw [uI_1, if_pos rfl, fi1_1 (by omega), ef, li1, ni_add]
        obtain ⟨h', e', W', C', F'⟩ := ih (κ + 1) fuel (f + 1) (fi2 (fi1 A j (hv j))) (up1 hv j c2) h3 (by omega) (by omega) W3 C3 (F.trans G3) (by rw [b1 22 (by omega) (by omega)]; exact st) (by rw [b1 16 (by omega) (by omega)]; exact en) b3 (by omega) (by rw [b2 38 (by omega)]; exact fh) (by rw [b2 37 (by omega)]; exact nt) (fun q hq => by
          rw [h9 q]
          by_cases e : q = j
          · rw [if_pos e, e, up1_self]
          · rw [if_neg e, up1_ne e]; exact hh q hq) (fun q hq => by
          by_cases e : q = j
          · right; rw [e, up1_self]
          · rw [up1_ne e]; exact hp q hq)
        rw [li1, ni_add, fe]
        exact ⟨h', e', W', C', F'⟩
      · rw [if_neg a0, if_neg a0]
        have nr : hpI h3 (m + 2) l = hpI h0 (m + 2) l := le_nar (wr_LE W0 (F.trans G3))
        have b2 : ∀ o, o ≠ 35 → (fi2 (fi1 A j (hv j))).2 o = A.2 o := fun o h1 => fi1_2 h1
        have b1 : ∀ o, o ≠ 34 → o ≠ 20 → (fi2 (fi1 A j (hv j))).1 o = A.1 o := fun o h1 h2 => by rw [fi2_1 h2, fi1_1 h1]
        obtain ⟨h', e', W', C', F'⟩ := c_act (j := j) (hi := hv j) W3 C3 (by omega) (by rw [b1 22 (by omega) (by omega)]; exact st) pj.sb (by rw [b2 38 (by omega)]; exact fh) (by rw [b2 37 (by omega)]; exact nt)
        rw [b1 32 (by omega) (by omega), b1 33 (by omega) (by omega), nr] at C'
        refine ⟨h', ?_, W', ?_, (F.trans G3).trans F'⟩
        · rw [rb_ck B3, Option.bind_some, e', bnd_some]
        · unfold fiS; rw [if_neg a0]; exact C'
theorem c_lookAtEvents {h : Hp} {m l n ns N k L sg r ne f : Nat} {A : RecT} (W : WR h m l n ns N k L sg r) (C : CR h r n A) (st : A.1 22 0 = 1) (hne : A.1 16 0 = nI ne) (hn4 : ne ≤ 4) (ef : A.1 20 0 = nI f) (hf : f < 900000) (hq : ∀ j, j < ne → ∃ q, A.1 30 j = nI q ∧ q < N) (fh : HB (A.2 38 0)) (nt : Nm (A.2 37 0)) (tz : A.2 37 0 ≠ mz) :
    ∃ h', f_X4_lookAtEvents r h = some ((), h') ∧ WR h' m l n ns N k L sg r ∧ CR h' r n (evS (nvR h m l N) A (hpI h (m + 2) l) n) ∧ Fr (PR k L r) h h' := by
  have hN : N ≤ 48 := W.1.2.2.1.2.1.2.1
  obtain ⟨h1, e1, W1, C1, F1, v1⟩ := loop_rel (fun fuel i hh => f_X4_lookAtEvents_2 fuel (some r) i hh) (fun i hh => WR hh m l n ns N k L sg r ∧ CR hh r n A ∧ Fr (PR k L r) h hh ∧ ∀ j, j < i → hpD hh (r + 9) j = hvA (nvR h m l N) A (hpI h (m + 2) l) j) (n := ne) (res := fun hh => f_X4_lookAtEvents_35 fuelN (some r) 0 hh) (by omega) (by
    rintro fuel i hi hin ⟨Wi, Ci, Fi, vi⟩
    have Bi := Wi.2.1
    obtain ⟨d1, d2, d3, d4, d5, d6⟩ := cr_st Ci st
    obtain ⟨g1, g2, g3, g4⟩ := (cr_ev Ci).2.2 i (by omega)
    obtain ⟨q, q1, q2⟩ := hq i hin
    have eL : hpR hi (r + 12) 1 = some L := by rw [d1]; exact Wi.2.2.2.2.2
    obtain ⟨h2, e2, W2, F2⟩ := c_highOf (q := q) (way := A.1 31 i) Wi eL (show i < 4 by omega) (by rw [g1, q1]) g2 q2 fh nt tz d3 d4
    have WR2 := wr_row Wi i4 F2 W2
    have C2 : CR h2 r n A := cr_fr Ci F2 (fun a h1 h2 h3 h4 h5 z => by
      rcases z with z | z
      · exact r_ne Wi h1 h2 z
      · rcases z with z | z <;> omega)
    have B2 := WR2.2.1
    have le := wr_LE W Fi
    have ev : hvS (vaS (nvR hi m l N) A (hpI hi (m + 2) l) q) (A.1 31 i) = hvA (nvR h m l N) A (hpI h (m + 2) l) i := by
      unfold hvA
      rw [le_nvR le, le_nar le, q1, show tc (nI q) = q from ni_cl (by omega)]
    have F3 : Fr (fun a => a = r + 9) h2 (stD h2 (r + 9) i (hvA (nvR h m l N) A (hpI h (m + 2) l) i)) := fr_stD (Fr.refl _ h2) rfl
    have N3 : RN (stD h2 (r + 9) i (hvA (nvR h m l N) A (hpI h (m + 2) l) i)) (r + 1) 6 := fr_RN F3 (by omega) (by omega) WR2.2.2.1
    obtain ⟨WR3, G3⟩ := wr_own WR2 (F3.mono (fun a e => by omega)) N3
    refine ⟨_, ?_, WR3, cr_fr C2 F3 (fun a h1 h2 h3 h4 h5 z => h3 z), (Fi.trans (F2.mono (fun a z => pd_pr i4 z))).trans G3, fun j hj => ?_⟩
    · show f_X4_lookAtEvents_2 (fuel + 1) (some r) (nI i) hi = f_X4_lookAtEvents_2 fuel (some r) (nI (i + 1)) _
      rw [f_X4_lookAtEvents_2, rb_g10 Bi, Option.bind_some, rb_ei Bi, Option.bind_some, (cr_ev Ci).1, hne, if_neg (by rw [ni_le (by omega) (by omega)]; omega), Option.bind_some, rb_e5 Bi, Option.bind_some, rb_ck Bi, Option.bind_some, e2, bnd_some, rb_s9 B2 (by omega), Option.bind_some, li1, ni_add, ev]
    · by_cases e : j = i
      · subst e; rw [hpD_stD_self]
      · rw [hpD_stD_ne (Or.inr e), (F2.2.2.2 (r + 9) (fun z => by
          rcases z with z | z
          · exact r_ne Wi (by omega) (by omega) z
          · rcases z with z | z <;> omega)).2]
        exact vi j (by omega)) (by
    rintro fuel hi ⟨Wi, Ci, -⟩
    show f_X4_lookAtEvents_2 (fuel + 1) (some r) (nI ne) hi = _
    rw [f_X4_lookAtEvents_2, rb_g10 Wi.2.1, Option.bind_some, rb_ei Wi.2.1, Option.bind_some, (cr_ev Ci).1, hne, if_pos ((ni_le (by omega) (by omega)).mpr (Nat.le_refl _))]) h ⟨W, C, Fr.refl _ h, fun j hj => by omega⟩
  obtain ⟨h2, e2, W2, C2, F2⟩ := c_look_35 hn4 W ne 0 fuelN f A (hvA (nvR h m l N) A (hpI h (m + 2) l)) h1 (by omega) (by unfold fuelN; omega) W1 C1 F1 st hne ef (by omega) fh nt v1 (fun j hj => hvS_or _ _)
  refine ⟨h2, ?_, W2, ?_, F2⟩
  · unfold f_X4_lookAtEvents
    have e1' : f_X4_lookAtEvents_2 fuelN (some r) 0 h = _ := e1
    rw [e1']; exact e2
  · unfold evS
    rw [hne, show tc (nI ne) = ne from ni_cl (by omega)]
    exact C2
