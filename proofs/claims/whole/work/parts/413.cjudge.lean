/-! ===== the class judges a step, reckons its end, copies it ===== -/
theorem stD_self (h : Hp) (a k : Nat) : stD h a k (hpD h a k) = h := by
  apply hp_ext
  · rfl
  · rfl
  · rfl
  · funext b j
    rw [hpD_stD]
    by_cases e : b = a
    · rw [if_pos e]
      by_cases e2 : j = k
      · rw [if_pos e2, e, e2]
      · rw [if_neg e2]
    · rw [if_neg e]
  · rfl
theorem stD_stD (h : Hp) (a k : Nat) (v w : UInt64) : stD (stD h a k v) a k w = stD h a k w := by
  apply hp_ext
  · rfl
  · rfl
  · rfl
  · funext b j
    rw [hpD_stD, hpD_stD, hpD_stD]
    by_cases e : b = a
    · rw [if_pos e, if_pos e, if_pos e]
      by_cases e2 : j = k
      · rw [if_pos e2, if_pos e2]
      · rw [if_neg e2, if_neg e2, if_neg e2]
    · rw [if_neg e, if_neg e, if_neg e]
  · rfl
theorem c_judge {h : Hp} {m l n ns N k L sg T : Nat} {a b : UInt64} (W : WT h m l n ns N k L sg T) (ha : Fn a ∧ 0 < ky a) (hb : Fn b ∧ 0 ≤ ky b) (fx : ∀ i, i < n → Fn (RV h (T + 1) i)) (fz : ∀ i, i < n → Fn (RV h (T + 7) i)) (fe : ∀ i, i < n → Fn (RV h (T + 23) i)) (e0 : hpD h T 12 = FP.dconst0) :
    f_X6_judge T a b h = some ((), stD h T 12 (rtS (RV h (T + 1)) (RV h (T + 7)) (RV h (T + 23)) a b n)) := by
  have hn := wt_n W
  have S := W.2.1
  have Sf : ∀ v, ST (stD h T 12 v) T k L := fun _ => S
  have key := loop_from (fun fuel i hh => f_X6_judge_3 fuel (some T) a b i hh) (fun i => stD h T 12 (rtS (RV h (T + 1)) (RV h (T + 7)) (RV h (T + 23)) a b i)) (n := n) (a := 0) (res := some ((), stD h T 12 (rtS (RV h (T + 1)) (RV h (T + 7)) (RV h (T + 23)) a b n))) (by omega) (by omega) ?_ ?_
  · have q : stD h T 12 (rtS (RV h (T + 1)) (RV h (T + 7)) (RV h (T + 23)) a b 0) = h := by rw [rtS, ← e0]; exact stD_self h T 12
    rw [q] at key
    exact key
  · intro fuel i _ hi
    generalize hE : rtS (RV h (T + 1)) (RV h (T + 7)) (RV h (T + 23)) a b i = E
    have gn : getI (stD h T 12 E) (some L) 1 1 = some (nI n) := by rw [lo_gi (show LO (stD h T 12 E) L k sg n from W.1.2.1)]; exact congrArg some W.1.2.2.2.1.2.1
    have dr : ∀ r, IsR r → ∀ q, q < 6 → Fn (RV h (T + r) q) → aldD (stD h T 12 E) (some (T + r + 1)) (nI q) = some (RV h (T + r) q) := fun r hr q hq f => by
      rw [rw_a0 (st_r (Sf E) hr) hq (by omega), hpD_stD_row (by have := isr_le hr; omega), fn_num f]
    obtain ⟨r1, r2, r3, r4⟩ := nm_rtO (x := RV h (T + 1)) (z := RV h (T + 7)) (e := RV h (T + 23)) (fx i hi).nm (fz i hi) (fx i hi) (fe i hi) ha hb
    have mx : ∀ β (F : UInt64 → Option β), (if cl (mk (RV h (T + 1) i)) (mk (RV h (T + 7) i)) < 0 then F (mk (RV h (T + 7) i)) else F (mk (RV h (T + 1) i))) = F (mxK (mk (RV h (T + 1) i)) (mk (RV h (T + 7) i))) := fun β F => by
      unfold mxK
      have nx : Nm (mk (RV h (T + 1) i)) := nm_mk.mpr (fx i hi).nm
      have nz' : Nm (mk (RV h (T + 7) i)) := nm_mk.mpr (fz i hi).nm
      by_cases q : ky (mk (RV h (T + 1) i)) < ky (mk (RV h (T + 7) i))
      · rw [if_pos (cl_lt.mpr (Or.inr q)), if_pos q]
      · rw [if_neg (fun z => (cl_lt.mp z).elim (fun w => w ⟨nx, nz'⟩) q), if_neg q]
    have rt : rtO (RV h (T + 1)) (RV h (T + 7)) (RV h (T + 23)) a b i = FP.ddiv (mk (RV h (T + 23) i)) (FP.dadd a (FP.dmul b (mxK (mk (RV h (T + 1) i)) (mk (RV h (T + 7) i))))) := by
      unfold rtO; rw [cn_nm r2, cn_nm r3, cn_nm r4]
    show f_X6_judge_3 (fuel + 1) (some T) a b (nI i) (stD h T 12 E) = f_X6_judge_3 fuel (some T) a b (nI (i + 1)) _
    rw [f_X6_judge_3, st_g1 (Sf E), Option.bind_some, gn, Option.bind_some, if_neg (by rw [ni_le (by omega) (by omega)]; omega)]
    simp only [st_g6 (Sf E), st_g8 (Sf E), Option.bind_some, rw_g0 (st_r (Sf E) i1), rw_g0 (st_r (Sf E) i7), dr 1 i1 i (by omega) (fx i hi), dr 7 i7 i (by omega) (fz i hi), c_size (fx i hi).nm, c_size (fz i hi).nm, bnd_some]
    rw [mx _ (fun u => f_X6_judge_62 (f_X6_judge_3 fuel) (some T) a b (nI i) u b a (stD h T 12 E))]
    unfold f_X6_judge_62 f_X6_judge_104
    simp only [fop_ok r2, fop_ok r3, st_g10 (Sf E), Option.bind_some, rw_g0 (st_r (Sf E) i23), dr 23 i23 i (by omega) (fe i hi), c_size (fe i hi).nm, bnd_some, fop_ok r4, st_gd (Sf E), hpD_stD_self]
    rw [rtS, hE, rt]
    by_cases q : cl (FP.ddiv (mk (RV h (T + 23) i)) (FP.dadd a (FP.dmul b (mxK (mk (RV h (T + 1) i)) (mk (RV h (T + 7) i)))))) E ≤ 0
    · rw [if_pos q, if_pos q, putD_ok (Sf E).1, Option.bind_some, stD_stD, li1, ni_add]
    · rw [if_neg q, if_neg q, putD_ok (Sf E).1, Option.bind_some, stD_stD, li1, ni_add]
  · intro fuel
    generalize rtS (RV h (T + 1)) (RV h (T + 7)) (RV h (T + 23)) a b n = E
    have gn : getI (stD h T 12 E) (some L) 1 1 = some (nI n) := by rw [lo_gi (show LO (stD h T 12 E) L k sg n from W.1.2.1)]; exact congrArg some W.1.2.2.2.1.2.1
    show f_X6_judge_3 (fuel + 1) (some T) a b (nI n) (stD h T 12 E) = _
    rw [f_X6_judge_3, st_g1 (Sf E), Option.bind_some, gn, Option.bind_some, if_pos ((ni_le (by omega) (by omega)).mpr (Nat.le_refl _))]
theorem wt_TD' {h : Hp} {m l n ns N k L sg T j : Nat} {v : UInt64} (W : WT h m l n ns N k L sg T) : WT (stD h T j v) m l n ns N k L sg T := by
  obtain ⟨t1, t2, t3, t4⟩ := W.2.2.2
  have pL := W.1.2.2.2.2.2.2.2
  have F : Fr (fun a => a = T) h (stD h T j v) := fr_stD (Fr.refl _ h) rfl
  refine ⟨en_fr W.1 F (fun a b e => ?_) (rk_fr F (F.2.2.2 k (by omega)).2 W.1.1) (fr_RN F (by omega) (by omega) W.1.2.2.2.2.2.1), W.2.1, fun r hr => fr_RN F (by have := isr_le hr; omega) (by have := isr_le hr; omega) (W.2.2.1 r hr), W.2.2.2⟩
  subst e
  rcases b with b | b | ⟨s, S, hs, hS, b⟩
  · omega
  · omega
  · have := t4 s hs S hS; omega
theorem c_reckonEnd {h : Hp} {m l n ns N k L sg T : Nat} {en : UInt64} (W : WT h m l n ns N k L sg T) (ee : hpD h T 5 = en) (ne : Nm en) :
    ∃ h', f_X6_reckonEnd T h = some ((), h') ∧ WT h' m l n ns N k L sg T ∧ Fr (Pd k L (T + 26)) h h' ∧ ∀ i, i < n → RV h' (T + 26) i = fR h m l N en (RV h (T + 7)) i := by
  have hn := wt_n W
  have hN := wt_N W
  obtain ⟨E', e1, e2, e3⟩ := W.1.2.2.2.2.2.2.1
  obtain ⟨h1, r1, F1, E1, v1⟩ := c_reckonNodes W.1 (st_r W.2.1 i7) (W.2.2.1 7 i7) e2 ne (pd_n W i7 (Or.inl rfl)).2 (pd_n W i7 (Or.inr rfl)).2
  have F1' : Fr (Pd k L (T + 26)) h h1 := F1.mono (fun a p => Or.inl p)
  have W1 := wt_fr W i26 F1' E1.1 E1.2.2.2.2.2.1 (fr_RN F1 (pd_n W i26 (Or.inl rfl)).2 (pd_n W i26 (Or.inr rfl)).2 (W.2.2.1 _ i26))
  obtain ⟨h2, r2, F2, N2, v2, v2'⟩ := c_readSides E1 (st_r W1.2.1 i26) (W1.2.2.1 _ i26) (fun a p => pd_n W1 i26 p)
  have F2' : Fr (Pd k L (T + 26)) h1 h2 := F2.mono (fun a p => Or.inr p)
  have K2 : RK h2 k := rk_fr F2 (F2.2.2.2 k (fun p => (pd_n W1 i26 p).2 (Or.inl rfl))).2 E1.1
  have V2 : RN h2 (L + 6) 48 := fr_RN F2 (fun p => (pd_n W1 i26 p).2 (Or.inr (Or.inl (by omega)))) (fun p => (pd_n W1 i26 p).2 (Or.inr (Or.inr (by omega)))) E1.2.2.2.2.2.1
  have W2 := wt_fr W1 i26 F2' K2 V2 N2
  refine ⟨h2, ?_, W2, F1'.trans F2', fun i hi => ?_⟩
  · unfold f_X6_reckonEnd
    have s0 := W.2.1
    have s1 := W1.2.1
    have g12 : getI h (some L) 1 12 = some (nI E') := by rw [lo_gi W.1.2.1, e1]
    rw [st_g1 s0, Option.bind_some, st_gd s0, Option.bind_some, ee, st_g8 s0, Option.bind_some, Option.bind_some, g12, Option.bind_some, lo_ck W.1.2.1, Option.bind_some, r1, bnd_some, st_g1 s1, Option.bind_some, st_g11 s1, Option.bind_some, lo_ck W1.1.2.1, Option.bind_some, r2, bnd_some]
  · have hm4 : hpI h1 (m + 4) = hpI h (m + 4) := (F1.2.2.2 _ (fun p => pn_bd W.1 (Or.inl ⟨by omega, by omega⟩) p)).1
    rw [v2 i hi, hm4, v1 _ (e3 i hi)]; rfl
/-- a step's object without its law -/
def S0 (h : Hp) (T k : Nat) : Prop := hpK h T = some (6, 0) ∧ hpR h T 0 = some k ∧ hpR h T 6 = some (T + 1) ∧ hpR h T 7 = some (T + 4) ∧ hpR h T 8 = some (T + 7) ∧ hpR h T 9 = some (T + 10) ∧ hpR h T 10 = some (T + 23) ∧ hpR h T 11 = some (T + 26) ∧ hpK h (T + 10) = some (14, 4) ∧ (∀ j, j < 4 → hpR h (T + 10) j = some (T + (11 + 3 * j))) ∧ ∀ r, IsR r → RW h (T + r) 6
theorem st_s0 {h : Hp} {T k L : Nat} (S : ST h T k L) : S0 h T k := ⟨S.1, S.2.1, S.2.2.2⟩
theorem s0_st {h : Hp} {T k L : Nat} (S : S0 h T k) (e : hpR h T 1 = some L) : ST h T k L := ⟨S.1, S.2.1, e, S.2.2⟩
theorem fr_S0 {P : Nat → Prop} {h0 h : Hp} {T k : Nat} (F : Fr P h0 h) (S : S0 h0 T k) : S0 h T k := by
  unfold S0 RW; rw [F.2.1, F.2.2.1]; exact S
/-- an object's reference is written: others stay -/
theorem rw_stR {h : Hp} {a N b j : Nat} {v : Option Nat} (r : RW h a N) (hb : hpK h b ≠ some (3, 0)) : RW (stR h b j v) a N := by
  have e : a ≠ b := fun e => hb (by rw [← e]; exact r.1)
  unfold RW
  rw [hpR_stR, hpR_stR, if_neg e, if_neg e]
  exact r
theorem lo_stR {h : Hp} {L k sg n b j : Nat} {v : Option Nat} (r : LO h L k sg n) (hb : hpK h b ≠ some (3, 0)) (hb1 : hpK h b ≠ some (1, 0)) : LO (stR h b j v) L k sg n := by
  have e : L ≠ b := fun e => hb1 (by rw [← e]; exact r.1)
  have q := rw_stR (j := j) (v := v) (lo_rw r) hb
  unfold LO at r ⊢
  rw [hpR_stR, hpR_stR, hpR_stR, hpR_stR, hpR_stR, hpR_stR, hpR_stR, hpR_stR, hpR_stR]
  simp only [if_neg e]
  obtain ⟨a1, a2, a3, a4, a5, a6, a7, a8, a9, a10, a11, a12, a13, a14, a15, a16, a17⟩ := r
  exact ⟨a1, a2, a3, a4, a5, a6, a7, a8, a9, a10, a11, a12, a13, a14, a15, q, a17⟩
theorem so_stR {h : Hp} {S b j : Nat} {v : Option Nat} (r : SO h S) (hb : hpK h b ≠ some (5, 0)) : SO (stR h b j v) S := by
  have e : S ≠ b := fun e => hb (by rw [← e]; exact r.1)
  unfold SO
  rw [hpR_stR, hpR_stR, if_neg e, if_neg e]
  exact r
theorem ro_stR {h : Hp} {m b j : Nat} {v : Option Nat} (r : RO h m) (hb : hpK h b ≠ some (9, 0)) : RO (stR h b j v) m := by
  have e : m ≠ b := fun e => hb (by rw [← e]; exact ro_K r)
  refine ⟨fun k => ?_, r.2⟩
  rw [hpR_stR, if_neg e]; exact r.1 k
theorem en_stR {h : Hp} {m l n ns N k L sg b j : Nat} {v : Option Nat} (E : EN h m l n ns N k L sg) (b3 : hpK h b ≠ some (3, 0)) (b1 : hpK h b ≠ some (1, 0)) (b5 : hpK h b ≠ some (5, 0)) (b9 : hpK h b ≠ some (9, 0)) (bs : b ≠ sg) : EN (stR h b j v) m l n ns N k L sg := by
  obtain ⟨e1, e2, e3, e4, e5, e6, e7, e8⟩ := E
  have hs : hpR (stR h b j v) sg = hpR h sg := by funext q; rw [hpR_stR, if_neg (Ne.symm bs)]
  refine ⟨e1, lo_stR e2 b3 b1, ⟨ro_stR e3.1 b9, e3.2⟩, e4, ⟨e5.1, fun s hs' => ?_⟩, e6, e7, ?_⟩
  · obtain ⟨S, p, s1, s2, s3⟩ := e5.2 s hs'
    exact ⟨S, p, by rw [hs]; exact s1, so_stR s2 b5, s3⟩
  · unfold SP; rw [hs]; exact e8
theorem s0_stR {h : Hp} {T k b j : Nat} {v : Option Nat} (S : S0 h T k) (b3 : hpK h b ≠ some (3, 0)) (b14 : hpK h b ≠ some (14, 4)) (hb : b = T → j = 1) : S0 (stR h b j v) T k := by
  obtain ⟨a1, a2, a3, a4, a5, a6, a7, a8, a9, a10, a11⟩ := S
  have q : ∀ i, i ≠ 1 → hpR (stR h b j v) T i = hpR h T i := fun i hi => by
    rw [hpR_stR]
    by_cases e : T = b
    · rw [if_pos e, if_neg (by have := hb e.symm; omega)]
    · rw [if_neg e]
  have q2 : T + 10 ≠ b := fun e => b14 (by rw [← e]; exact a9)
  refine ⟨a1, by rw [q _ (by omega)]; exact a2, by rw [q _ (by omega)]; exact a3, by rw [q _ (by omega)]; exact a4, by rw [q _ (by omega)]; exact a5, by rw [q _ (by omega)]; exact a6, by rw [q _ (by omega)]; exact a7, by rw [q _ (by omega)]; exact a8, a9, fun i hi => by rw [hpR_stR, if_neg q2]; exact a10 i hi, fun r hr => rw_stR (a11 r hr) b3⟩
/-- rows are copied from one step to another -/
def CPI (Dn : Nat → Prop) (T' T : Nat) (h0 h : Hp) : Prop := Fr (fun a => T' ≤ a ∧ a < T' + 29) h0 h ∧ SN h T' ∧ (∀ r, IsR r → Dn r → ∀ i, i < 6 → RV h (T' + r) i = RV h0 (T + r) i) ∧ hpI h T' = hpI h0 T' ∧ hpD h T' = hpD h0 T'
theorem cp_one {Dn : Nat → Prop} {h0 h : Hp} {T' T k r : Nat} (C : CPI Dn T' T h0 h) (D : S0 h0 T' k) (S : S0 h0 T k) (n0 : SN h0 T) (dj : T' + 29 ≤ T ∨ T + 29 ≤ T') (hr : IsR r) :
    f_X3_copy (T' + r) (some (T + r)) h = some ((), cpV h (T' + r) (T + r) 6) ∧ CPI (fun q => q = r ∨ Dn q) T' T h0 (cpV h (T' + r) (T + r) 6) := by
  obtain ⟨F, sn, v, ti, td⟩ := C
  have Dw := fr_S0 F D
  have Sw := fr_S0 F S
  have hl := isr_le hr
  have nS : RN h (T + r) 6 := fr_RN F (by omega) (by omega) (n0 r hr)
  have rS : RV h (T + r) = RV h0 (T + r) := fr_RV F (by omega) (by omega)
  have G : Fr (fun a => a = T' + r + 1 ∨ a = T' + r + 2) h (cpV h (T' + r) (T + r) 6) := fr_cpV (Fr.refl _ h) (Or.inl rfl) (Or.inr rfl)
  refine ⟨c_copy (Dw.2.2.2.2.2.2.2.2.2.2 r hr) (Sw.2.2.2.2.2.2.2.2.2.2 r hr) (by omega) nS (by omega) (by omega), F.trans (G.mono (fun a e => by omega)), fun q hq => ?_, fun q hq dn i hi => ?_, ?_, ?_⟩
  · by_cases e : q = r
    · rw [e]; exact RN_cpV nS
    · have := isr_ne hr hq (Ne.symm e)
      exact fr_RN G (by omega) (by omega) (sn q hq)
  · by_cases e : q = r
    · rw [e, RV_cpV hi, rS]
    · have := isr_ne hr hq (Ne.symm e)
      rw [fr_RV G (by omega) (by omega)]
      exact v q hq (dn.resolve_left e) i hi
  · rw [cpV_I (by omega)]; exact ti
  · rw [cpV_D (by omega)]; exact td
