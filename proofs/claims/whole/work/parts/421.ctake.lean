/-! ===== a step is taken by the class ===== -/
theorem rb_stR {h : Hp} {r k b j : Nat} {v : Option Nat} (B : RB h r k) (b3 : hpK h b ≠ some (3, 0)) (b14 : hpK h b ≠ some (14, 4)) (b0 : hpK h b ≠ some (0, 0)) (hb : b = r → j = 0) (hb2 : b = r + 12 → j = 1) : RB (stR h b j v) r k := by
  obtain ⟨a1, a2, a3, a4, a5, a6, a7, a8, a9, a10, a11, a12, a13, a14⟩ := B
  have q : ∀ i, i ≠ 0 → hpR (stR h b j v) r i = hpR h r i := fun i hi => by
    rw [hpR_stR]
    by_cases e : r = b
    · rw [if_pos e, if_neg (by have := hb e.symm; omega)]
    · rw [if_neg e]
  have e4 : r + 4 ≠ b := fun e => b0 (by rw [← e]; exact a6)
  have q4 : ∀ i, hpR (stR h b j v) (r + 4) i = hpR h (r + 4) i := fun i => by rw [hpR_stR, if_neg e4]
  exact ⟨a1, by rw [q 2 (by omega)]; exact a2, by rw [q 10 (by omega)]; exact a3, by rw [q 11 (by omega)]; exact a4, rw_stR a5 b3, a6, fun i h1 h2 => by rw [q4]; exact a7 i h1 h2, by rw [q4]; exact a8, by rw [q4]; exact a9, a10, a11, a12, a13, s0_stR a14 b3 b14 hb2⟩
/-- a step's law is written, in a step elsewhere or in the run's latest one -/
theorem wr_stR {h : Hp} {m l n ns N k L sg r b : Nat} {v : Option Nat} (W : WR h m l n ns N k L sg r) (hb : hpK h b = some (6, 0)) (hr : b ≠ r) : WR (stR h b 1 v) m l n ns N k L sg r := by
  have bs : b ≠ sg := fun e => by have := W.1.2.2.2.2.1.1; rw [← e, hb] at this; exact absurd this (by decide)
  refine ⟨en_stR W.1 (by rw [hb]; decide) (by rw [hb]; decide) (by rw [hb]; decide) (by rw [hb]; decide) bs, rb_stR W.2.1 (by rw [hb]; decide) (by rw [hb]; decide) (by rw [hb]; decide) (fun e => absurd e hr) (fun _ => rfl), W.2.2.1, W.2.2.2.1, ?_, ?_⟩
  · unfold RS
    have : hpR (stR h b 1 v) sg = hpR h sg := by funext q; rw [hpR_stR, if_neg (Ne.symm bs)]
    rw [this]; exact W.2.2.2.2.1
  · rw [hpR_stR, if_neg (Ne.symm hr)]; exact W.2.2.2.2.2
/-- the record of a step that was taken, ahead of the clock's and the length's last word -/
def tk0 (A : RecT) (F : FT) (nar : Int32) (n M no : Nat) (hf off : UInt64) : RecT := tkS A F nar n M no hf off true (FP.dadd (A.2 24 0) hf)
theorem tkS_I {A : RecT} {F : FT} {nar : Int32} {n M no : Nat} {hf off endv : UInt64} {isCut : Bool} {o : Nat} (h : o ≠ 22 ∧ o ≠ 36 ∧ o ≠ 19 ∧ o ≠ 17 ∧ o ≠ 18) : (tkS A F nar n M no hf off isCut endv).1 o = A.1 o := by
  obtain ⟨h1, h2, h3, h4, h5⟩ := h
  unfold tkS
  dsimp only
  split <;> first | rfl | omega
theorem tkS_D {A : RecT} {F : FT} {nar : Int32} {n M no : Nat} {hf off endv : UInt64} {isCut : Bool} {o : Nat} (h : o ≠ 24 ∧ o ≠ 25 ∧ o ≠ 28 ∧ o ≠ 29 ∧ o < 37) : (tkS A F nar n M no hf off isCut endv).2 o = A.2 o := by
  obtain ⟨h1, h2, h3, h4, h5⟩ := h
  unfold tkS
  dsimp only
  split <;> first | rfl | omega
theorem tkS_k {A : RecT} {F : FT} {nar : Int32} {n M no : Nat} {hf off endv : UInt64} {isCut : Bool} {j : Nat} (hj : j < 4) : (tkS A F nar n M no hf off isCut endv).2 (100 + j) = kS F nar n M (A.2 24 0) hf (A.2 29) j := by
  rcases (by omega : j = 0 ∨ j = 1 ∨ j = 2 ∨ j = 3) with rfl | rfl | rfl | rfl <;> rfl
theorem c_take {h : Hp} {m l n ns N k L sg r T M no : Nat} {A : RecT} {hf off : UInt64} (W : WR h m l n ns N k L sg r) (C : CR h r n A) (S : ST h T k L) (sT : SN h T) (hT : T + 29 ≤ m) (hM : A.1 15 0 = nI M) (hM6 : M ≤ 6) (ntE : Nm (FP.dadd (A.2 24 0) hf)) (sd : SD h T n M (fR h m l N) (hpI h (m + 2) l) (A.2 24 0) hf (A.2 29)) (eo : hpD h T 12 = off) :
    ∃ h', f_X4_take r (some T) (nI no) h = some ((), h') ∧ WR h' m l n ns N k L sg r ∧ CR h' r n (tk0 A (fR h m l N) (hpI h (m + 2) l) n M no hf off) ∧ Fr (PR k L r) (stR h (r + 12) 1 (some L)) h' := by
  have B := W.2.1
  have s := W.2.2.2.2.1
  have s1 := s.1
  have s2 := s.2.1
  have p1 := W.1.2.2.2.2.2.2.2.1
  have p2 := W.1.2.2.2.2.2.2.2.2.1
  have hn : n ≤ 6 := W.1.2.2.1.2.1.2.2.2.1
  obtain ⟨h1, e1, F1, N1, SC1⟩ := c_stepcopy (rb_s0 B) (st_s0 S) (by omega) W.2.2.2.1 sT (k' := 0)
  rw [S.2.2.1] at F1
  have W0 := wr_stR (v := some L) W (rb_s0 B).1 (by omega)
  have F1' : Fr (PR k L r) (stR h (r + 12) 1 (some L)) h1 := F1.mono (fun a e => Or.inr (by omega))
  have W1 : WR h1 m l n ns N k L sg r := wr_fr W0 F1' (rk_fr F1 (F1.2.2.2 k (by omega)).2 W0.1.1) (fr_RN F1 (by omega) (by omega) W0.1.2.2.2.2.2.1) (fr_RN F1 (by omega) (by omega) W0.2.2.1) N1
  have L1 : hpR h1 (r + 12) 1 = some L := by rw [F1.2.2.1, hpR_stR, if_pos rfl, if_pos rfl]
  have WT1 := wr_wt W1 L1
  obtain ⟨x2, x13, x3, x4, x5, x12, xr⟩ := SC1
  obtain ⟨y2, y3, y4, y5, y13, yx, yz, yk, ye⟩ := sd
  obtain ⟨h2, e2, WT2, F2, v2⟩ := c_reckonEnd WT1 (en := FP.dadd (A.2 24 0) hf) (by rw [x5]; exact y5) ntE
  have W2 := wr_row W1 i26 F2 WT2
  have B2 := W2.2.1
  have cp := c_copy (rb_rw B2) (st_r WT2.2.1 i7) (by omega) (WT2.2.2.1 7 i7) (by omega) (by omega)
  have F02 : Fr (PR k L r) (stR h (r + 12) 1 (some L)) h2 := F1'.trans (F2.mono (fun a z => pd_pr i26 z))
  generalize e3 : cpV h2 (r + 1) (r + 12 + 7) 6 = h3 at cp
  have F3 : Fr (fun a => a = r + 2 ∨ a = r + 3) h2 h3 := by rw [← e3]; exact fr_cpV (Fr.refl _ h2) (by omega) (by omega)
  have N3 : RN h3 (r + 1) 6 := by rw [← e3]; exact RN_cpV (WT2.2.2.1 7 i7)
  have v3 : ∀ i, i < 6 → RV h3 (r + 1) i = RV h2 (r + 12 + 7) i := fun i hi => by rw [← e3]; exact RV_cpV hi
  have B3 := fr_RB F3 B2
  have D3 : hpD h3 (r + 12) = hpD h2 (r + 12) := (F3.2.2.2 _ (by omega)).2
  have I3 : hpI h3 (r + 12) = hpI h2 (r + 12) := (F3.2.2.2 _ (by omega)).1
  have TD2 : hpD h2 (r + 12) = hpD h1 (r + 12) := wt_TD WT1 i26 F2
  have TI2 : hpI h2 (r + 12) = hpI h1 (r + 12) := wt_TI WT1 i26 F2
  -- the run's own cells, up to now
  have oI : ∀ o, o < 12 → o ≠ 2 → o ≠ 3 → hpI h3 (r + o) = hpI h (r + o) ∧ hpD h3 (r + o) = hpD h (r + o) := fun o h1 h2' h3' => by
    have q3 := F3.2.2.2 (r + o) (by omega)
    have q2 := F2.2.2.2 (r + o) (fun z => by
      rcases z with z | z
      · exact r_ne W1 (by omega) (by omega) z
      · rcases z with z | z <;> omega)
    have q1 := F1.2.2.2 (r + o) (by omega)
    exact ⟨by rw [q3.1, q2.1, q1.1]; rfl, by rw [q3.2, q2.2, q1.2]; rfl⟩
  have o0I : hpI h3 r = hpI h r := (oI 0 (by omega) (by omega) (by omega)).1
  have o0D : hpD h3 r = hpD h r := (oI 0 (by omega) (by omega) (by omega)).2
  obtain ⟨c1, c2', c3, c4, c5, c6, c7, c8, c9, c10, c11, c12, c13, c14, c15, c16, c17⟩ := C
  generalize e4 : stI (stI (stD h3 r 1 (FP.dadd (A.2 24 0) hf)) r 8 (A.1 17 0 + 1)) r 9 (A.1 18 0 + nI no) = h4
  have F4 : Fr (fun a => a = r) h3 h4 := by rw [← e4]; exact fr_stI (fr_stI (fr_stD (Fr.refl _ h3) rfl) rfl) rfl
  have F34 : Fr (fun a => a = r ∨ a = r + 2 ∨ a = r + 3 ∨ a = r + 4 ∨ a = r + 9 ∨ a = r + 10 ∨ a = r + 11) h2 h4 := (F3.mono (fun a e => by omega)).trans (F4.mono (fun a e => Or.inl e))
  obtain ⟨W4, G4⟩ := wr_own W2 F34 (fr_RN F4 (by omega) (by omega) N3)
  have rv4 : ∀ o, IsR o → RV h4 (r + 12 + o) = RV h2 (r + 12 + o) := fun o ho => by
    have := isr_le ho
    rw [fr_RV F4 (by omega) (by omega), fr_RV F3 (by omega) (by omega)]
  have rv1 : ∀ o, IsR o → o ≠ 26 → o ≠ 4 → ∀ i, i < 6 → RV h2 (r + 12 + o) i = RV h (T + o) i := fun o ho h26 h4 i hi => by
    rw [wt_RV WT1 i26 F2 ho h26]; exact xr o ho h4 i hi
  refine ⟨h4, ?_, W4, ?_, F02.trans G4⟩
  · unfold f_X4_take
    have K3 := B3.1
    have i8 : hpI (stD h3 r 1 (FP.dadd (A.2 24 0) hf)) r 8 = A.1 17 0 := by show hpI h3 r 8 = _; rw [o0I]; exact c7
    have i9 : hpI (stI (stD h3 r 1 (FP.dadd (A.2 24 0) hf)) r 8 (A.1 17 0 + 1)) r 9 = A.1 18 0 := by rw [hpI_stI_ne (Or.inr (by omega))]; show hpI h3 r 9 = _; rw [o0I]; exact c8
    have d5 : getD h3 (some (r + 12)) 6 5 = some (FP.dadd (A.2 24 0) hf) := by rw [getD_ok (rb_s0 B3).1, D3, TD2, x5, y5]
    rw [rb_g11 B, Option.bind_some, ck_ok (rb_s0 B).1, Option.bind_some, e1, bnd_some, rb_g11 W1.2.1, Option.bind_some, ck_ok WT1.2.1.1, Option.bind_some, e2, bnd_some, rb_g2 B2, Option.bind_some, rb_g11 B2, Option.bind_some, st_g8 WT2.2.1, Option.bind_some, rw_ck (rb_rw B2), Option.bind_some, cp, bnd_some, rb_g11 B3, Option.bind_some, d5, Option.bind_some, putD_ok K3, Option.bind_some, getI_ok (show hpK (stD h3 r 1 (FP.dadd (A.2 24 0) hf)) r = some (4, 0) from K3), Option.bind_some, i8, putI_ok (show hpK (stD h3 r 1 (FP.dadd (A.2 24 0) hf)) r = some (4, 0) from K3), Option.bind_some, getI_ok (show hpK (stI (stD h3 r 1 (FP.dadd (A.2 24 0) hf)) r 8 (A.1 17 0 + 1)) r = some (4, 0) from K3), Option.bind_some, i9, putI_ok (show hpK (stI (stD h3 r 1 (FP.dadd (A.2 24 0) hf)) r 8 (A.1 17 0 + 1)) r = some (4, 0) from K3), Option.bind_some, e4]
  · have qI : ∀ j, j ≠ 8 → j ≠ 9 → hpI h4 r j = hpI h r j := fun j h8 h9 => by
      rw [← e4, hpI_stI_ne (Or.inr h9), hpI_stI_ne (Or.inr h8)]; show hpI h3 r j = _; rw [o0I]
    have qD : ∀ j, j ≠ 1 → hpD h4 r j = hpD h r j := fun j h1 => by
      rw [← e4]; show hpD (stD h3 r 1 (FP.dadd (A.2 24 0) hf)) r j = _; rw [hpD_stD_ne (Or.inr h1), o0D]
    have o4 : ∀ o, 4 ≤ o → o < 12 → hpI h4 (r + o) = hpI h (r + o) ∧ hpD h4 (r + o) = hpD h (r + o) := fun o h1 h2' => by
      have q4 := F4.2.2.2 (r + o) (by omega)
      have q3 := oI o h2' (by omega) (by omega)
      exact ⟨q4.1.trans q3.1, q4.2.trans q3.2⟩
    have T4I : hpI h4 (r + 12) = hpI h1 (r + 12) := by rw [(F4.2.2.2 _ (by omega)).1, I3, TI2]
    have T4D : hpD h4 (r + 12) = hpD h1 (r + 12) := by rw [(F4.2.2.2 _ (by omega)).2, D3, TD2]
    have tI : ∀ o, (o ≠ 22 ∧ o ≠ 36 ∧ o ≠ 19 ∧ o ≠ 17 ∧ o ≠ 18) → (tk0 A (fR h m l N) (hpI h (m + 2) l) n M no hf off).1 o = A.1 o := fun o ho => tkS_I ho
    have tD : ∀ o, (o ≠ 24 ∧ o ≠ 25 ∧ o ≠ 28 ∧ o ≠ 29 ∧ o < 37) → (tk0 A (fR h m l N) (hpI h (m + 2) l) n M no hf off).2 o = A.2 o := fun o ho => tkS_D ho
    refine ⟨?_, by rw [qI 3 (by omega) (by omega), tI 15 (by omega)]; exact c2', by rw [qD 4 (by omega)]; exact c3, by rw [qD 5 (by omega), tD 26 (by omega)]; exact c4, by rw [qD 6 (by omega), tD 27 (by omega)]; exact c5, by rw [qI 7 (by omega) (by omega), tI 21 (by omega)]; exact c6, ?_, ?_, fun i hi => ?_, by rw [(o4 4 (by omega) (by omega)).1, tI 16 (by omega)]; exact c10, by rw [(o4 4 (by omega) (by omega)).1, tI 20 (by omega)]; exact c11, fun j hj => ?_, fun j hj => ?_, by rw [T4D, x12]; exact eo, by rw [T4I, x13]; exact y13, by rw [T4D, x4]; exact y4, fun _ => ⟨?_, ?_, ⟨by rw [T4D, x3]; exact y3, by rw [T4D, x4]; exact y4, fun i hi => ⟨?_, ?_, ?_, ?_⟩⟩, by rw [T4D, x5]; exact y5, fun j hj i hi => ?_, fun e i hi => ?_⟩⟩
    · rw [← e4]; show hpD (stD h3 r 1 (FP.dadd (A.2 24 0) hf)) r 1 = _; rw [hpD_stD_self]; rfl
    · rw [← e4, hpI_stI_ne (Or.inr (by omega)), hpI_stI_self]; rfl
    · rw [← e4, hpI_stI_self]; rfl
    · rw [fr_RV F4 (by omega) (by omega), v3 i (by omega), rv1 7 i7 (by omega) (by omega) i (by omega)]; exact yz i hi
    · rw [(o4 5 (by omega) (by omega)).1, (o4 6 (by omega) (by omega)).1, (o4 7 (by omega) (by omega)).1, (o4 8 (by omega) (by omega)).1, tI 30 (by omega), tI 31 (by omega), tI 32 (by omega), tI 33 (by omega)]; exact c12 j hj
    · rw [(o4 10 (by omega) (by omega)).1, (o4 11 (by omega) (by omega)).2, tI 34 (by omega), tD 35 (by omega)]; exact c13 j hj
    · rw [W4.2.2.2.2.2, F4.2.2.1, F3.2.2.1, F2.2.2.1]; exact L1
    · rw [T4I, x2, y2, ← hM]; rfl
    · rw [rv4 1 i1, rv1 1 i1 (by omega) (by omega) i (by omega)]; exact yx i hi
    · rw [rv4 7 i7, rv1 7 i7 (by omega) (by omega) i (by omega)]; exact yz i hi
    · rw [rv4 11 i11, rv1 11 i11 (by omega) (by omega) i (by omega)]
      have := yk 0 (by have := sgN_le M; omega) i hi
      rw [kS_0] at this
      exact this
    · rw [rv4 26 i26, v2 i hi]
      have fe : fR h1 m l N = fR h m l N := (le_fR (fr_LE F1' (fun a h1 h2 => pr_bd W0 (Or.inl ⟨h1, h2⟩)))).trans rfl
      rw [fe]
      exact dp_fR W.1.2.2.1 _ _ _ (fun q hq => by rw [xr 7 i7 (by omega) q (by omega)]; exact yz q hq) i hi
    · have hM' : tc ((tk0 A (fR h m l N) (hpI h (m + 2) l) n M no hf off).1 36 0) = M := by show tc (A.1 15 0) = M; rw [hM]; exact ni_cl (by omega)
      rw [hM'] at hj
      have j4 : j < 4 := by have := sgN_le M; omega
      rw [rv4 _ (isr_k j4), rv1 _ (isr_k j4) (by omega) (by omega) i (by omega)]
      show _ = (tkS A (fR h m l N) (hpI h (m + 2) l) n M no hf off true (FP.dadd (A.2 24 0) hf)).2 (100 + j) i
      rw [tkS_k j4]
      exact yk j hj i hi
    · have hM' : tc ((tk0 A (fR h m l N) (hpI h (m + 2) l) n M no hf off).1 36 0) = M := by show tc (A.1 15 0) = M; rw [hM]; exact ni_cl (by omega)
      rw [hM'] at e
      rw [rv4 23 i23, rv1 23 i23 (by omega) (by omega) i (by omega)]
      exact ye e i hi
