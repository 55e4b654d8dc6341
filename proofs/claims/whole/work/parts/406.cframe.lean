/-! ===== what the class's work leaves as it was ===== -/
def Fr (P : Nat → Prop) (h0 h : Hp) : Prop := hpS h = hpS h0 ∧ hpK h = hpK h0 ∧ hpR h = hpR h0 ∧ ∀ a, ¬ P a → hpI h a = hpI h0 a ∧ hpD h a = hpD h0 a
theorem Fr.refl (P : Nat → Prop) (h : Hp) : Fr P h h := ⟨rfl, rfl, rfl, fun _ _ => ⟨rfl, rfl⟩⟩
theorem Fr.trans {P : Nat → Prop} {h0 h1 h2 : Hp} (a : Fr P h0 h1) (b : Fr P h1 h2) : Fr P h0 h2 :=
  ⟨b.1.trans a.1, b.2.1.trans a.2.1, b.2.2.1.trans a.2.2.1, fun q hq => ⟨(b.2.2.2 q hq).1.trans (a.2.2.2 q hq).1, (b.2.2.2 q hq).2.trans (a.2.2.2 q hq).2⟩⟩
theorem Fr.mono {P Q : Nat → Prop} {h0 h : Hp} (F : Fr P h0 h) (hPQ : ∀ a, P a → Q a) : Fr Q h0 h := ⟨F.1, F.2.1, F.2.2.1, fun a ha => F.2.2.2 a (fun p => ha (hPQ a p))⟩
theorem fr_stI {P : Nat → Prop} {h0 h : Hp} {a j : Nat} {v : Int32} (F : Fr P h0 h) (ha : P a) : Fr P h0 (stI h a j v) :=
  ⟨F.1, F.2.1, F.2.2.1, fun q hq => ⟨by rw [hpI_stI_row (fun e => hq (by rw [e]; exact ha))]; exact (F.2.2.2 q hq).1, (F.2.2.2 q hq).2⟩⟩
theorem fr_stD {P : Nat → Prop} {h0 h : Hp} {a j : Nat} {v : UInt64} (F : Fr P h0 h) (ha : P a) : Fr P h0 (stD h a j v) :=
  ⟨F.1, F.2.1, F.2.2.1, fun q hq => ⟨(F.2.2.2 q hq).1, by rw [hpD_stD_row (fun e => hq (by rw [e]; exact ha))]; exact (F.2.2.2 q hq).2⟩⟩
theorem fr_rwI {P : Nat → Prop} {h0 h : Hp} {a : Nat} {f : Nat → Int32} (F : Fr P h0 h) (ha : P a) : Fr P h0 (rwI h a f) :=
  ⟨F.1, F.2.1, F.2.2.1, fun q hq => ⟨by rw [hpI_rwI_ne (fun e => hq (by rw [e]; exact ha))]; exact (F.2.2.2 q hq).1, (F.2.2.2 q hq).2⟩⟩
theorem fr_rwD {P : Nat → Prop} {h0 h : Hp} {a : Nat} {f : Nat → UInt64} (F : Fr P h0 h) (ha : P a) : Fr P h0 (rwD h a f) :=
  ⟨F.1, F.2.1, F.2.2.1, fun q hq => ⟨(F.2.2.2 q hq).1, by rw [hpD_rwD_ne (fun e => hq (by rw [e]; exact ha))]; exact (F.2.2.2 q hq).2⟩⟩
theorem fr_wrV {P : Nat → Prop} {h0 h : Hp} {a j : Nat} {X : UInt64} (F : Fr P h0 h) (h1 : P (a + 1)) (h2 : P (a + 2)) : Fr P h0 (wrV h a j X) := fr_stD (fr_stI F h2) h1
theorem fr_cpV {P : Nat → Prop} {h0 h : Hp} {d s N : Nat} (F : Fr P h0 h) (h1 : P (d + 1)) (h2 : P (d + 2)) : Fr P h0 (cpV h d s N) := fr_rwI (fr_rwD F h1) h2
theorem fr_cp1 {P : Nat → Prop} {h0 h : Hp} {d s i : Nat} (F : Fr P h0 h) (h1 : P (d + 1)) (h2 : P (d + 2)) : Fr P h0 (cp1 h d s i) := fr_stI (fr_stD F h1) h2
theorem fr_RW {P : Nat → Prop} {h0 h : Hp} {a N : Nat} (F : Fr P h0 h) (r : RW h0 a N) : RW h a N := by
  unfold RW; rw [F.2.1, F.2.2.1]; exact r
theorem fr_RN {P : Nat → Prop} {h0 h : Hp} {a N : Nat} (F : Fr P h0 h) (h1 : ¬ P (a + 1)) (h2 : ¬ P (a + 2)) (r : RN h0 a N) : RN h a N := by
  intro i hi
  rw [(F.2.2.2 _ h1).2, (F.2.2.2 _ h2).1]; exact r i hi
theorem fr_RV {P : Nat → Prop} {h0 h : Hp} {a : Nat} (F : Fr P h0 h) (h1 : ¬ P (a + 1)) (h2 : ¬ P (a + 2)) : RV h a = RV h0 a := by
  funext i
  unfold RV
  rw [(F.2.2.2 _ h1).2, (F.2.2.2 _ h2).1]
theorem fr_LO {P : Nat → Prop} {h0 h : Hp} {L k sg n : Nat} (F : Fr P h0 h) (r : LO h0 L k sg n) : LO h L k sg n := by
  unfold LO RW; rw [F.2.1, F.2.2.1]; exact r
theorem fr_SO {P : Nat → Prop} {h0 h : Hp} {S : Nat} (F : Fr P h0 h) (r : SO h0 S) : SO h S := by
  unfold SO; rw [F.2.1, F.2.2.1]; exact r
theorem fr_LE {P : Nat → Prop} {h0 h : Hp} {m : Nat} (F : Fr P h0 h) (hP : ∀ a, m ≤ a → a < m + 58 → ¬ P a) : LE h0 h m :=
  ⟨F.2.1, F.2.2.1, fun o h1 h2 => F.2.2.2 _ (hP _ (by omega) (by omega))⟩
/-- where everything of a law lies: the reckoner k, the reference m, the law L, the signals -/
def SP (h : Hp) (m k L sg ns : Nat) : Prop := k < m ∧ m + 58 ≤ L ∧ ∀ s, s < ns → ∀ S, hpR h sg s = some S → m + 58 ≤ S ∧ (S + 3 ≤ L ∨ L + 10 ≤ S)
def EN (h : Hp) (m l n ns N k L sg : Nat) : Prop :=
  RK h k ∧ LO h L k sg n ∧ SX h m l n ns N ∧ LR h m l L n N ∧ SGc h m sg ns ∧ RN h (L + 6) 48 ∧ (∃ E, hpI h L 12 = nI E ∧ E ≤ N ∧ ∀ i, i < n → tc (hpI h (m + 4) (6 * l + i)) < E) ∧ SP h m k L sg ns
/-- cells that the work on a law must not touch -/
def Bd (h : Hp) (m L sg ns a : Nat) : Prop := (m ≤ a ∧ a < m + 58) ∨ (L ≤ a ∧ a < L + 10 ∧ a ≠ L + 7 ∧ a ≠ L + 8) ∨ ∃ s S, s < ns ∧ hpR h sg s = some S ∧ S ≤ a ∧ a < S + 3
theorem en_fr {P : Nat → Prop} {h0 h : Hp} {m l n ns N k L sg : Nat} (E : EN h0 m l n ns N k L sg) (F : Fr P h0 h) (hP : ∀ a, Bd h0 m L sg ns a → ¬ P a) (K : RK h k) (V : RN h (L + 6) 48) : EN h m l n ns N k L sg := by
  obtain ⟨-, e2, e3, e4, e5, -, e7, e8⟩ := E
  have hm : ∀ o, o < 58 → hpI h (m + o) = hpI h0 (m + o) ∧ hpD h (m + o) = hpD h0 (m + o) := fun o ho => F.2.2.2 _ (hP _ (Or.inl ⟨by omega, by omega⟩))
  have hL : ∀ o, o < 10 → o ≠ 7 → o ≠ 8 → hpI h (L + o) = hpI h0 (L + o) ∧ hpD h (L + o) = hpD h0 (L + o) := fun o ho h7 h8 => F.2.2.2 _ (hP _ (Or.inr (Or.inl ⟨by omega, by omega, by omega, by omega⟩)))
  have hL0 : hpI h L = hpI h0 L := (hL 0 (by omega) (by omega) (by omega)).1
  refine ⟨K, fr_LO F e2, le_SX (fr_LE F (fun a h1 h2 => hP a (Or.inl ⟨h1, h2⟩))) e3, ?_, ?_, V, ?_, ?_⟩
  · unfold LR
    rw [hL0, (hm 2 (by omega)).1, (hL 1 (by omega) (by omega) (by omega)).1, (hL 2 (by omega) (by omega) (by omega)).1, (hL 3 (by omega) (by omega) (by omega)).1, (hL 4 (by omega) (by omega) (by omega)).1, (hL 5 (by omega) (by omega) (by omega)).2, (hL 9 (by omega) (by omega) (by omega)).1, (hm 5 (by omega)).1, (hm 6 (by omega)).1, (hm 7 (by omega)).1, (hm 8 (by omega)).1, (hm 9 (by omega)).2, (hm 4 (by omega)).1]
    exact e4
  · refine ⟨by rw [F.2.1]; exact e5.1, fun s hs => ?_⟩
    obtain ⟨S, p, s1, s2, s3, s4, s5, s6, s7, s8⟩ := e5.2 s hs
    have hS : ∀ o, o < 3 → hpI h (S + o) = hpI h0 (S + o) ∧ hpD h (S + o) = hpD h0 (S + o) := fun o ho => F.2.2.2 _ (hP _ (Or.inr (Or.inr ⟨s, S, hs, s1, by omega, by omega⟩)))
    have hS0 : hpI h S = hpI h0 S := (hS 0 (by omega)).1
    refine ⟨S, p, by rw [F.2.2.1]; exact s1, fr_SO F s2, s3, ?_⟩
    rw [hS0, (hS 1 (by omega)).2, (hS 2 (by omega)).2, (hm 10 (by omega)).1, (hm 11 (by omega)).1, (hm 12 (by omega)).2, (hm 13 (by omega)).2]
    exact ⟨s4, s5, s6, s7, s8⟩
  · rw [hL0, (hm 4 (by omega)).1]; exact e7
  · unfold SP; rw [F.2.2.1]; exact e8
/-- a node's value out of those ahead of it -/
theorem nvR_eq {h : Hp} {m l n ns N q : Nat} {t : UInt64} {x g : Nat → UInt64} (L : LwOK h m l n ns N) (hsg : SgOK h m ns) (hq : q < N) (hg : ∀ j, j < q → g j = nvR h m l N t x j) : wR h m l t x q g = nvR h m l N t x q := by
  obtain ⟨hl, hN, hn1, hn6, -, -, hnd⟩ := L
  obtain ⟨-, -, g1, g2, g3, -⟩ := ndok_tc (hnd q hq).1 (by omega) (by omega) (by have := hsg.1; omega)
  have e : nvR h m l N t x q = wR h m l t x q (nvS (wR h m l t x) q (fun _ => 0)) := by
    unfold nvR; rw [nvS_lt hq, nvS, up1_self]
  rw [e]
  refine wV_dep (fun j hj => ?_) g1 g2 g3
  rw [hg j hj]
  unfold nvR
  rw [nvS_lt (show j < N by omega), nvS_lt hj]
theorem pV_false (v : UInt64) : pV (decide ((0 : Int32) ≠ 0)) v = v := by unfold pV; rw [if_neg (by simp)]
theorem rk_stI {h : Hp} {k : Nat} {f : Int32} (K : RK h k) : RK (stI h k 1 f) k := K
theorem rk_fr {P : Nat → Prop} {h0 h : Hp} {k : Nat} (F : Fr P h0 h) (hd : hpD h k = hpD h0 k) (K : RK h0 k) : RK h k := ⟨by rw [F.2.1]; exact K.1, by rw [hd]; exact K.2⟩
/-- the work on a law's nodes -/
def Pn (k L a : Nat) : Prop := a = k ∨ a = L + 7 ∨ a = L + 8
theorem pn_bd {h : Hp} {m l n ns N k L sg a : Nat} (E : EN h m l n ns N k L sg) (b : Bd h m L sg ns a) : ¬ Pn k L a := by
  obtain ⟨-, -, -, -, -, -, -, p1, p2, p3⟩ := E
  rintro (e | e | e)
  · rcases b with b | b | ⟨s, S, hs, hS, b⟩
    · omega
    · omega
    · have := p3 s hs S hS; omega
  · rcases b with b | b | ⟨s, S, hs, hS, b⟩
    · omega
    · omega
    · have := p3 s hs S hS; omega
  · rcases b with b | b | ⟨s, S, hs, hS, b⟩
    · omega
    · omega
    · have := p3 s hs S hS; omega
theorem c_reckonNodes {h : Hp} {m l n ns N k L sg xr E' : Nat} {t : UInt64} (E : EN h m l n ns N k L sg) (xw : RW h xr 6) (xn : RN h xr 6) (hE : E' ≤ N) (nt : Nm t) (x1 : ¬ Pn k L (xr + 1)) (x2 : ¬ Pn k L (xr + 2)) :
    ∃ h', f_X1_reckonNodes L t (some xr) (nI E') h = some ((), h') ∧ Fr (Pn k L) h h' ∧ EN h' m l n ns N k L sg ∧ ∀ q, q < E' → RV h' (L + 6) q = nvR h m l N t (RV h xr) q := by
  have hN := E.2.2.1.2.1.2.1
  have hP := fun a => pn_bd (a := a) E
  have key := loop_rel (fun fuel i hh => f_X1_reckonNodes_3 fuel (some L) t (some xr) (nI E') i hh) (fun i h' => Fr (Pn k L) h h' ∧ RK h' k ∧ RN h' (L + 6) 48 ∧ ∀ q, q < i → RV h' (L + 6) q = nvR h m l N t (RV h xr) q) (n := E') (res := fun h' => some ((), h')) (by omega) ?_ ?_ h ⟨Fr.refl _ h, E.1, E.2.2.2.2.2.1, fun q hq => by omega⟩
  · obtain ⟨h', e, F, K, V, r⟩ := key
    exact ⟨h', e, F, en_fr E F hP K V, r⟩
  · rintro fuel i hi hiE ⟨F, K, V, r⟩
    have Ei := en_fr E F hP K V
    obtain ⟨-, LOi, SXi, LRi, SGi, -, -, SPi⟩ := Ei
    have xwi := fr_RW F xw
    have xni := fr_RN F x1 x2 xn
    have k8 : k ≠ L + 6 + 2 := by have h1 := SPi.1; have h2 := SPi.2.1; omega
    have k7 : k ≠ L + 6 + 1 := by have h1 := SPi.1; have h2 := SPi.2.1; omega
    obtain ⟨x, f, e1, ev⟩ := c_reckoned (q := i) (t := t) K LOi SXi.2.1 SXi.2.2.1 LRi SGi xwi xni V (by omega) nt (fun z => x2 (Or.inl z.symm)) k8 (fun s S hs hS => by have h1 := SPi.1; have h2 := (SPi.2.2 s hs S hS).1; omega)
    have hv : wR hi m l t (RV hi xr) i (RV hi (L + 6)) = nvR h m l N t (RV h xr) i := by
      rw [le_wR (fr_LE F (fun a h1 h2 => hP a (Or.inl ⟨h1, h2⟩))), fr_RV F x1 x2]
      exact nvR_eq E.2.2.1.2.1 E.2.2.1.2.2.1 (by omega) r
    rw [hv] at ev
    have LO0 : ∀ f, LO (stI hi k 1 f) L k sg n := fun _ => LOi
    have gf : getI (stI hi k 1 f) (some k) 2 1 = some f := by rw [getI_ok (rk_stI K).1, hpI_stI_self]
    refine ⟨wrV (stI hi k 1 f) (L + 6) i (nvR h m l N t (RV h xr) i), ?_, fr_wrV (fr_stI F (Or.inl rfl)) (Or.inr (Or.inl (by omega))) (Or.inr (Or.inr (by omega))), ⟨K.1, by rw [wrV_D k7]; exact K.2⟩, RN_wrV (fun j hj => by rw [hpI_stI_ne (Or.inl (Ne.symm k8))]; exact V j hj), fun q hq => ?_⟩
    · show f_X1_reckonNodes_3 (fuel + 1) (some L) t (some xr) (nI E') (nI i) hi = f_X1_reckonNodes_3 fuel (some L) t (some xr) (nI E') (nI (i + 1)) _
      rw [f_X1_reckonNodes_3, if_neg (by rw [ni_le (by omega) (by omega)]; omega), lo_g4 LOi, Option.bind_some, rk_ck K, Option.bind_some, c_begin' K, bnd_some, lo_ck (LO0 0), Option.bind_some, e1, bnd_some, lo_g13 (LO0 f), Option.bind_some, lo_g4 (LO0 f), Option.bind_some, gf, Option.bind_some, rw_ck (lo_rw (LO0 f)), Option.bind_some, c_put (lo_rw (LO0 f)) (by omega) (by omega) ev, bnd_some, li1, ni_add, pV_false]
    · rw [RV_wrV ev.cv]
      by_cases e : q = i
      · rw [if_pos e, e]
      · rw [if_neg e]
        have : RV (stI hi k 1 f) (L + 6) q = RV hi (L + 6) q := by unfold RV; rw [hpI_stI_ne (Or.inl (Ne.symm k8))]; rfl
        rw [this]; exact r q (by omega)
  · rintro fuel h' -
    show f_X1_reckonNodes_3 (fuel + 1) (some L) t (some xr) (nI E') (nI E') h' = _
    rw [f_X1_reckonNodes_3, if_pos ((ni_le (by omega) (by omega)).mpr (Nat.le_refl _))]
/-- one value out of another row -/
def cp2 (h : Hp) (d i s j : Nat) : Hp := stI (stD h (d + 1) i (hpD h (s + 1) j)) (d + 2) i (hpI h (s + 2) j)
theorem RV_cp2 {h : Hp} {d i s j : Nat} (q : Nat) : RV (cp2 h d i s j) d q = if q = i then RV h s j else RV h d q := by
  unfold RV cp2
  rw [hpD_stI]
  by_cases e : q = i
  · subst e; rw [hpI_stI_self, hpD_stD_self, if_pos rfl]
  · rw [hpI_stI_ne (Or.inr e), hpI_stD, hpD_stD_ne (Or.inr e), if_neg e]
theorem RN_cp2 {h : Hp} {d i s j N M : Nat} (r : RN h d N) (r2 : RN h s M) (hj : j < M) : RN (cp2 h d i s j) d N := by
  intro q hq
  unfold cp2
  rw [hpD_stI]
  by_cases e : q = i
  · subst e; rw [hpI_stI_self, hpD_stD_self]; exact r2 j hj
  · rw [hpI_stI_ne (Or.inr e), hpI_stD, hpD_stD_ne (Or.inr e)]; exact r q hq
def Pr (d a : Nat) : Prop := a = d + 1 ∨ a = d + 2
theorem c_readSides {h : Hp} {m l n ns N k L sg d : Nat} (E : EN h m l n ns N k L sg) (dw : RW h d 6) (dn : RN h d 6) (hd : ∀ a, Pr d a → ¬ Bd h m L sg ns a ∧ ¬ Pn k L a) :
    ∃ h', f_X1_readSides L (some d) h = some ((), h') ∧ Fr (Pr d) h h' ∧ RN h' d 6 ∧ (∀ i, i < n → RV h' d i = RV h (L + 6) (tc (hpI h (m + 4) (6 * l + i)))) ∧ ∀ i, n ≤ i → RV h' d i = RV h d i := by
  obtain ⟨K, LO0, SX0, LR0, SG0, V0, -, SP0⟩ := E
  have hN := SX0.2.1.2.1
  have hn := SX0.2.1.2.2.2.1
  have o7 : ¬ Pr d (L + 6 + 1) := fun p => (hd _ p).2 (Or.inr (Or.inl (by omega)))
  have o8 : ¬ Pr d (L + 6 + 2) := fun p => (hd _ p).2 (Or.inr (Or.inr (by omega)))
  have oL : ¬ Pr d L := fun p => (hd _ p).1 (Or.inr (Or.inl ⟨by omega, by omega, by omega, by omega⟩))
  have o9 : ¬ Pr d (L + 9) := fun p => (hd _ p).1 (Or.inr (Or.inl ⟨by omega, by omega, by omega, by omega⟩))
  have key := loop_rel (fun fuel i hh => f_X1_readSides_2 fuel (some L) (some d) i hh) (fun i h' => Fr (Pr d) h h' ∧ RN h' d 6 ∧ (∀ q, q < i → RV h' d q = RV h (L + 6) (tc (hpI h (m + 4) (6 * l + q)))) ∧ ∀ q, i ≤ q → RV h' d q = RV h d q) (n := n) (res := fun h' => some ((), h')) (by omega) ?_ ?_ h ⟨Fr.refl _ h, dn, fun q hq => by omega, fun _ _ => rfl⟩
  · obtain ⟨h', e, F, V, r, r2⟩ := key
    exact ⟨h', e, F, V, r, r2⟩
  · rintro fuel i hi hin ⟨F, V, r, r2⟩
    obtain ⟨s, es, hs⟩ := SX0.2.2.2.2 i hin
    have ts : tc (hpI h (m + 4) (6 * l + i)) = s := by rw [es]; exact ni_cl (by omega)
    have LOi := fr_LO F LO0
    have dwi := fr_RW F dw
    have Vi : RN hi (L + 6) 48 := fr_RN F o7 o8 V0
    have gi : getI hi (some L) 1 1 = some (nI n) := by rw [lo_gi LOi, (F.2.2.2 _ oL).1, LR0.2.1]
    have gs : aldI hi (some (L + 9)) 11 (nI i) = some (nI s) := by rw [lo_a11 LOi hin hn, (F.2.2.2 _ o9).1, LR0.2.2.2.2.2 i hin, es]
    have n0 : ¬ nI s < 0 := by rw [li0, ni_lt (by omega) (by omega)]; omega
    have D2 : RW (stD hi (d + 1) i (hpD hi (L + 6 + 1) s)) d 6 := dwi
    have S2 : RW (stD hi (d + 1) i (hpD hi (L + 6 + 1) s)) (L + 6) 48 := lo_rw LOi
    have LO2 : LO (stD hi (d + 1) i (hpD hi (L + 6 + 1) s)) L k sg n := LOi
    refine ⟨cp2 hi d i (L + 6) s, ?_, fr_stI (fr_stD F (Or.inl rfl)) (Or.inr rfl), RN_cp2 V Vi (by omega), fun q hq => ?_, fun q hq => ?_⟩
    · show f_X1_readSides_2 (fuel + 1) (some L) (some d) (nI i) hi = f_X1_readSides_2 fuel (some L) (some d) (nI (i + 1)) _
      rw [f_X1_readSides_2, gi, Option.bind_some, if_neg (by rw [ni_le (by omega) (by omega)]; omega), lo_g11 LOi, Option.bind_some, gs, Option.bind_some, if_neg n0, rw_g0 dwi, Option.bind_some, lo_g13 LOi, Option.bind_some, rw_g0 (lo_rw LOi), Option.bind_some, rw_a0 (lo_rw LOi) (by omega) (by omega), Option.bind_some, rw_s0 dwi (by omega) (by omega), Option.bind_some, rw_g1 D2, Option.bind_some, lo_g13 LO2, Option.bind_some, rw_g1 S2, Option.bind_some, rw_a1 S2 (by omega) (by omega), Option.bind_some, hpI_stD, rw_s1 D2 (by omega) (by omega) (Vi s (by omega)).2, Option.bind_some]
      unfold f_X1_readSides_51
      rw [li1, ni_add]
      rfl
    · rw [RV_cp2]
      by_cases e : q = i
      · rw [if_pos e, e, ts, fr_RV F o7 o8]
      · rw [if_neg e]; exact r q (by omega)
    · rw [RV_cp2, if_neg (by omega)]; exact r2 q (by omega)
  · rintro fuel h' ⟨F, -⟩
    show f_X1_readSides_2 (fuel + 1) (some L) (some d) (nI n) h' = _
    rw [f_X1_readSides_2, lo_gi (fr_LO F LO0), Option.bind_some, (F.2.2.2 _ oL).1, LR0.2.1, if_pos ((ni_le (by omega) (by omega)).mpr (Nat.le_refl _))]
