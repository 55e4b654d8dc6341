/-! ===== constant and node ===== -/
def bi (x : Bool) : Int32 := if x = true then 1 else 0
def inB (v : Int32) (N : Nat) : Bool := decide (0 ≤ v ∧ v < nI N)
theorem inB_ex {v : Int32} {N : Nat} (hN : N < 1000) (e : inB v N = true) : ∃ k, v = nI k ∧ k < N := by
  unfold inB at e
  have z := of_decide_eq_true e
  obtain ⟨k, h1, h2⟩ := ni_of3 (n := N) (by omega) z.1 z.2
  exact ⟨k, h2, h1⟩
theorem bi0 (x : Bool) : (bi x = 0) ↔ ¬ x = true := by cases x <;> decide
theorem in_bi {v : Int32} {N : Nat} (hN : N < 1000) (h : Hp) : f_X9_in v 0 (nI N - 1) h = some (bi (inB v N), h) := by
  rw [r_in]
  unfold bi inB
  by_cases z : 0 ≤ v ∧ v < nI N
  · rw [if_pos ⟨z.1, (le_pred hN).mpr (Int32.not_le.mpr z.2)⟩, if_pos (decide_eq_true z)]
  · rw [if_neg (fun w => z ⟨w.1, Int32.not_le.mp ((le_pred hN).mp w.2)⟩), if_neg (by rw [decide_eq_true_eq]; exact z)]
theorem hasN_bi {h : Hp} {L k sg n N : Nat} (H : LO h L k sg n) (en : hpI h L 10 = nI N) (v : Int32) : f_X1_hasNode L v h = some (bi (inB v N), h) := by
  rw [c_hasNode H en]
  unfold bi inB
  by_cases z1 : v < 0
  · rw [if_pos z1, if_neg (by rw [decide_eq_true_eq]; exact fun z => absurd z1 (Int32.not_lt.mpr z.1))]
  · by_cases z2 : nI N ≤ v
    · rw [if_neg z1, if_pos z2, if_neg (by rw [decide_eq_true_eq]; exact fun z => absurd z2 (Int32.not_le.mpr z.2))]
    · rw [if_neg z1, if_neg z2, if_pos (decide_eq_true ⟨Int32.not_lt.mp z1, Int32.not_le.mp z2⟩)]
theorem hasV_bi {h : Hp} {L k sg n : Nat} (H : LO h L k sg n) (en : hpI h L 1 = nI n) (v : Int32) : f_X1_hasVariable L v h = some (bi (inB v n), h) := by
  rw [c_hasVariable H en]
  unfold bi inB
  by_cases z1 : v < 0
  · rw [if_pos z1, if_neg (by rw [decide_eq_true_eq]; exact fun z => absurd z1 (Int32.not_lt.mpr z.1))]
  · by_cases z2 : nI n ≤ v
    · rw [if_neg z1, if_pos z2, if_neg (by rw [decide_eq_true_eq]; exact fun z => absurd z2 (Int32.not_le.mpr z.2))]
    · rw [if_neg z1, if_neg z2, if_pos (decide_eq_true ⟨Int32.not_lt.mp z1, Int32.not_le.mp z2⟩)]
def bb1 (j : Nat) : Bool := decide ((2 ≤ j ∧ j ≤ 5) ∨ (8 ≤ j ∧ j ≤ 10))
def fitB (n N ns j : Nat) (a b cc : Int32) : Bool := ((((decide (j = 1) || (if j = 0 then inB a n else inB a N)) && (!(bb1 j) || inB b N)) && (!(decide (j = 10)) || inB cc N)) && (!(decide (j = 11)) || inB b 10)) && (!(decide (j = 12)) || inB b ns)
theorem nd_of {n N ns j : Nat} {a b cc : Int32} (hj : j < 13) (hn : n < 1000) (hN : N < 1000) (hs : ns < 1000) (f : fitB n N ns j a b cc = true) : NdOK n ns N (nI j) a b cc := by
  unfold fitB bb1 at f
  simp only [Bool.and_eq_true, Bool.or_eq_true, Bool.not_eq_true', decide_eq_true_eq, decide_eq_false_iff_not] at f
  obtain ⟨⟨⟨⟨f1, f2⟩, f3⟩, f4⟩, f5⟩ := f
  refine ⟨j, rfl, by omega, fun z => ?_, fun z => ?_, fun z => ?_, fun z => ?_, fun z => ?_, fun z => ?_⟩
  · rw [if_pos z] at f1; exact inB_ex hn (f1.resolve_left (by omega))
  · rw [if_neg (by omega)] at f1; exact inB_ex hN (f1.resolve_left (by omega))
  · exact inB_ex hN (f2.resolve_left (fun w => w z))
  · exact inB_ex hN (f3.resolve_left (fun w => w z))
  · obtain ⟨b', e, hb⟩ := inB_ex (by omega) (f4.resolve_left (fun w => w z))
    exact ⟨b', e, by omega⟩
  · exact inB_ex hs (f5.resolve_left (fun w => w z))
theorem bi_01 (x : Bool) : bi x = 0 ∨ bi x = 1 := by cases x; exact Or.inl rfl; exact Or.inr rfl
theorem in10 {v : Int32} : inB v 10 = true ↔ ¬ v < 0 ∧ ¬ 9 < v := by
  unfold inB
  rw [decide_eq_true_eq, Int32.not_lt, Int32.not_lt, Int32.le_iff_toInt_le, Int32.le_iff_toInt_le, Int32.lt_iff_toInt_lt, ni_toInt (by omega)]
  have e : (9 : Int32).toInt = 9 := by decide
  omega
theorem inS {v : Int32} {N : Nat} : inB v N = true ↔ ¬ v < 0 ∧ ¬ nI N ≤ v := by
  unfold inB
  rw [decide_eq_true_eq, Int32.not_lt, Int32.not_le]
theorem c_fits {h : Hp} {c L n N ns j : Nat} {a b cc : Int32} (X : XO h c) (H : LO h L (c + 1) (c + 5) n) (e1 : hpI h L 1 = nI n) (e10 : hpI h L 10 = nI N) (e5 : hpI h c 5 = nI ns) (hj : j < 13) : f_X8_fits c (some L) (nI j) a b cc h = some (bi (fitB n N ns j a b cc), h) := by
  have ck := ck_ok (kd := (1, 0)) H.1
  have hN := hasN_bi H e10
  have hV := hasV_bi H e1
  have gI : getI h (some c) 8 5 = some (nI ns) := by rw [getI_ok X.1, e5]
  have i10 := in10 (v := b)
  have iS := inS (v := b) (N := ns)
  unfold f_X8_fits fitB
  rcases (show j = 0 ∨ j = 1 ∨ j = 2 ∨ j = 3 ∨ j = 4 ∨ j = 5 ∨ j = 6 ∨ j = 7 ∨ j = 8 ∨ j = 9 ∨ j = 10 ∨ j = 11 ∨ j = 12 by omega) with rfl | rfl | rfl | rfl | rfl | rfl | rfl | rfl | rfl | rfl | rfl | rfl | rfl
  · rw [if_neg (by decide), if_pos (by decide)]
    rw [ck, Option.bind_some, hV, bnd_some, if_pos (bi_01 _)]
    generalize inB a n = x
    cases x <;> rfl
  · rw [if_neg (by decide), if_neg (by decide), if_pos (by decide)]
    rw [if_pos (by decide)]; rfl
  · rw [if_neg (by decide), if_neg (by decide), if_neg (by decide), if_pos (by decide)]
    unfold f_X8_fits_82
    rw [ck, Option.bind_some, hN, bnd_some, ck, Option.bind_some, hN, bnd_some]
    generalize inB a N = x
    generalize inB b N = y
    cases x <;> cases y <;> rfl
  · rw [if_neg (by decide), if_neg (by decide), if_neg (by decide), if_neg (by decide), if_pos (by decide)]
    unfold f_X8_fits_82
    rw [ck, Option.bind_some, hN, bnd_some, ck, Option.bind_some, hN, bnd_some]
    generalize inB a N = x
    generalize inB b N = y
    cases x <;> cases y <;> rfl
  · rw [if_neg (by decide), if_neg (by decide), if_neg (by decide), if_neg (by decide), if_neg (by decide), if_pos (by decide)]
    unfold f_X8_fits_82
    rw [ck, Option.bind_some, hN, bnd_some, ck, Option.bind_some, hN, bnd_some]
    generalize inB a N = x
    generalize inB b N = y
    cases x <;> cases y <;> rfl
  · rw [if_neg (by decide), if_neg (by decide), if_neg (by decide), if_neg (by decide), if_neg (by decide), if_neg (by decide), if_pos (by decide)]
    unfold f_X8_fits_82
    rw [ck, Option.bind_some, hN, bnd_some, ck, Option.bind_some, hN, bnd_some]
    generalize inB a N = x
    generalize inB b N = y
    cases x <;> cases y <;> rfl
  · rw [if_neg (by decide), if_neg (by decide), if_neg (by decide), if_neg (by decide), if_neg (by decide), if_neg (by decide), if_neg (by decide), if_pos (by decide)]
    unfold f_X8_fits_76
    rw [ck, Option.bind_some, hN, bnd_some, if_pos (bi_01 _)]
    generalize inB a N = x
    cases x <;> rfl
  · rw [if_neg (by decide), if_neg (by decide), if_neg (by decide), if_neg (by decide), if_neg (by decide), if_neg (by decide), if_neg (by decide), if_neg (by decide), if_pos (by decide)]
    unfold f_X8_fits_76
    rw [ck, Option.bind_some, hN, bnd_some, if_pos (bi_01 _)]
    generalize inB a N = x
    cases x <;> rfl
  · rw [if_neg (by decide), if_neg (by decide), if_neg (by decide), if_neg (by decide), if_neg (by decide), if_neg (by decide), if_neg (by decide), if_neg (by decide), if_neg (by decide), if_pos (by decide)]
    unfold f_X8_fits_82
    rw [ck, Option.bind_some, hN, bnd_some, ck, Option.bind_some, hN, bnd_some]
    generalize inB a N = x
    generalize inB b N = y
    cases x <;> cases y <;> rfl
  · rw [if_neg (by decide), if_neg (by decide), if_neg (by decide), if_neg (by decide), if_neg (by decide), if_neg (by decide), if_neg (by decide), if_neg (by decide), if_neg (by decide), if_neg (by decide), if_pos (by decide)]
    unfold f_X8_fits_82
    rw [ck, Option.bind_some, hN, bnd_some, ck, Option.bind_some, hN, bnd_some]
    generalize inB a N = x
    generalize inB b N = y
    cases x <;> cases y <;> rfl
  · rw [if_neg (by decide), if_neg (by decide), if_neg (by decide), if_neg (by decide), if_neg (by decide), if_neg (by decide), if_neg (by decide), if_neg (by decide), if_neg (by decide), if_neg (by decide), if_neg (by decide), if_pos (by decide)]
    rw [ck, Option.bind_some, hN, bnd_some, ck, Option.bind_some, hN, bnd_some, ck, Option.bind_some, hN, bnd_some]
    generalize inB a N = x
    generalize inB b N = y
    generalize inB cc N = z
    cases x <;> cases y <;> cases z <;> rfl
  · rw [if_neg (by decide), if_neg (by decide), if_neg (by decide), if_neg (by decide), if_neg (by decide), if_neg (by decide), if_neg (by decide), if_neg (by decide), if_neg (by decide), if_neg (by decide), if_neg (by decide), if_neg (by decide), if_pos (by decide)]
    rw [ck, Option.bind_some, hN, bnd_some]
    generalize inB a N = x
    generalize inB b 10 = y at i10
    by_cases z1 : b < 0
    · have : y = false := by cases y; rfl; exact absurd z1 (i10.mp rfl).1
      rw [this, if_pos z1]; cases x <;> rfl
    · by_cases z2 : 9 < b
      · have : y = false := by cases y; rfl; exact absurd z2 (i10.mp rfl).2
        rw [this, if_neg z1, if_pos z2]; cases x <;> rfl
      · rw [i10.mpr ⟨z1, z2⟩, if_neg z1, if_neg z2]; cases x <;> rfl
  · rw [if_neg (by decide), if_neg (by decide), if_neg (by decide), if_neg (by decide), if_neg (by decide), if_neg (by decide), if_neg (by decide), if_neg (by decide), if_neg (by decide), if_neg (by decide), if_neg (by decide), if_neg (by decide), if_neg (by decide), if_pos (by decide)]
    rw [ck, Option.bind_some, hN, bnd_some, gI, Option.bind_some]
    generalize inB a N = x
    generalize inB b ns = y at iS
    by_cases z1 : b < 0
    · have : y = false := by cases y; rfl; exact absurd z1 (iS.mp rfl).1
      rw [this, if_pos z1]; cases x <;> rfl
    · by_cases z2 : nI ns ≤ b
      · have : y = false := by cases y; rfl; exact absurd z2 (iS.mp rfl).2
        rw [this, if_neg z1, if_pos z2]; cases x <;> rfl
      · rw [iS.mpr ⟨z1, z2⟩, if_neg z1, if_neg z2]; cases x <;> rfl
/-! the reference's node -/
theorem rn_215 {h : Hp} {m : Nat} {l kd a b cc : Int32} (H : RO h m) (x : Bool) : f_X9_node_215 (some m) l kd a b cc (bi x) h = if x = true then f_X9_comesNode m l kd a b cc h else some (-1, h) := by
  unfold f_X9_node_215 f_X9_node_235
  cases x with
  | false => rfl
  | true =>
    rw [if_neg (by decide), ck_ok (ro_K H), Option.bind_some, if_pos rfl]
    cases e : f_X9_comesNode m l kd a b cc h with
    | none => rfl
    | some p => obtain ⟨x, g⟩ := p; rfl
theorem rn_182 {h : Hp} {m ns j : Nat} {l a b cc : Int32} (H : RO h m) (e14 : hpI h m 14 = nI ns) (hs : ns < 1000) (hj : j < 13) (x : Bool) : f_X9_node_182 (some m) l (nI j) a b cc (bi x) h = f_X9_node_215 (some m) l (nI j) a b cc (bi (x && (!(decide (j = 12)) || inB b ns))) h := by
  unfold f_X9_node_182 f_X9_node_212 f_X9_node_213
  by_cases z : j = 12
  · rw [if_neg (show ¬ ¬ nI j = 12 by rw [li12, ni_eq (by omega) (by omega)]; omega), getI_ok (ro_K H), Option.bind_some, e14, in_bi hs, bnd_some, decide_eq_true z]
    generalize inB b ns = y
    cases x <;> cases y <;> rfl
  · rw [if_pos (show ¬ nI j = 12 by rw [li12, ni_eq (by omega) (by omega)]; omega), decide_eq_false z]
    cases x <;> rfl
theorem in_10 {v : Int32} (h : Hp) : f_X9_in v 0 9 h = some (bi (inB v 10), h) := by
  have := in_bi (v := v) (N := 10) (by omega) h
  rw [show nI 10 - 1 = 9 from by decide] at this
  exact this
theorem rn_153 {h : Hp} {m j : Nat} {l a b cc : Int32} (hj : j < 13) (x : Bool) : f_X9_node_153 (some m) l (nI j) a b cc (bi x) h = f_X9_node_182 (some m) l (nI j) a b cc (bi (x && (!(decide (j = 11)) || inB b 10))) h := by
  unfold f_X9_node_153 f_X9_node_179 f_X9_node_180
  by_cases z : j = 11
  · rw [if_neg (show ¬ ¬ nI j = 11 by rw [li11, ni_eq (by omega) (by omega)]; omega), in_10, bnd_some, decide_eq_true z]
    generalize inB b 10 = y
    cases x <;> cases y <;> rfl
  · rw [if_pos (show ¬ nI j = 11 by rw [li11, ni_eq (by omega) (by omega)]; omega), decide_eq_false z]
    cases x <;> rfl
theorem rn_124 {h : Hp} {m N j : Nat} {l a b cc : Int32} (hN : N < 1000) (hj : j < 13) (x : Bool) : f_X9_node_124 (some m) l (nI j) a b cc (nI N - 1) (bi x) h = f_X9_node_153 (some m) l (nI j) a b cc (bi (x && (!(decide (j = 10)) || inB cc N))) h := by
  unfold f_X9_node_124 f_X9_node_150 f_X9_node_151
  by_cases z : j = 10
  · rw [if_neg (show ¬ ¬ nI j = 10 by rw [li10, ni_eq (by omega) (by omega)]; omega), in_bi hN, bnd_some, decide_eq_true z]
    generalize inB cc N = y
    cases x <;> cases y <;> rfl
  · rw [if_pos (show ¬ nI j = 10 by rw [li10, ni_eq (by omega) (by omega)]; omega), decide_eq_false z]
    cases x <;> rfl
theorem rn_101 {h : Hp} {m N j : Nat} {l a b cc : Int32} (hN : N < 1000) (x : Bool) : f_X9_node_101 (some m) l (nI j) a b cc (nI N - 1) (bi x) h = f_X9_node_124 (some m) l (nI j) a b cc (nI N - 1) (bi (x && inB b N)) h := by
  unfold f_X9_node_101 f_X9_node_121 f_X9_node_122
  rw [in_bi hN, bnd_some]
  generalize inB b N = y
  cases x <;> cases y <;> rfl
theorem rn_79 {h : Hp} {m N j : Nat} {l a b cc : Int32} (hN : N < 1000) (hj : j < 13) (x : Bool) : f_X9_node_79 (some m) l (nI j) a b cc (nI N - 1) (bi x) h = f_X9_node_124 (some m) l (nI j) a b cc (nI N - 1) (bi (x && (!(bb1 j) || inB b N))) h := by
  unfold f_X9_node_79 bb1
  rw [r_in, bnd_some]
  by_cases z : 2 ≤ j ∧ j ≤ 5
  · have z' : (2 : Int32) ≤ nI j ∧ nI j ≤ 5 := ⟨by rw [li2, ni_le (by omega) (by omega)]; omega, by rw [li5, ni_le (by omega) (by omega)]; omega⟩
    rw [if_pos z', if_pos (by decide), rn_101 hN, decide_eq_true (Or.inl z)]; rfl
  · have z' : ¬ ((2 : Int32) ≤ nI j ∧ nI j ≤ 5) := fun u => z ⟨by have v := u.1; rw [li2, ni_le (by omega) (by omega)] at v; exact v, by have v := u.2; rw [li5, ni_le (by omega) (by omega)] at v; exact v⟩
    rw [if_neg z', if_neg (by decide), r_in, bnd_some]
    by_cases z2 : 8 ≤ j ∧ j ≤ 10
    · have z2' : (8 : Int32) ≤ nI j ∧ nI j ≤ 10 := ⟨by rw [li8, ni_le (by omega) (by omega)]; omega, by rw [li10, ni_le (by omega) (by omega)]; omega⟩
      rw [if_pos z2', if_neg (by decide), rn_101 hN, decide_eq_true (Or.inr z2)]; rfl
    · have z2' : ¬ ((8 : Int32) ≤ nI j ∧ nI j ≤ 10) := fun u => z2 ⟨by have v := u.1; rw [li8, ni_le (by omega) (by omega)] at v; exact v, by have v := u.2; rw [li10, ni_le (by omega) (by omega)] at v; exact v⟩
      rw [if_neg z2', if_pos rfl, decide_eq_false (fun w => w.elim z z2)]
      cases x <;> rfl
theorem r_node {h : Hp} {m l n N ns j : Nat} {a b cc : Int32} (H : RO h m) (hl : l < 8) (e9 : ∃ nl, l < nl ∧ nl ≤ 8 ∧ hpI h m 9 = nI nl) (e1 : hpI h (m + 1) l = nI n) (e3 : hpI h (m + 3) l = nI N) (e14 : hpI h m 14 = nI ns) (hn : n < 1000) (hN : N < 1000) (hs : ns < 1000) (hj : j < 13) : f_X9_node m (nI l) (nI j) a b cc h = if fitB n N ns j a b cc = true then f_X9_comesNode m (nI l) (nI j) a b cc h else some (-1, h) := by
  obtain ⟨nl, u1, u2, u3⟩ := e9
  have i12 : f_X9_in (nI j) 0 12 h = some (1, h) := by
    rw [r_in, if_pos ⟨by rw [li0, ni_le (by omega) (by omega)]; omega, by rw [li12, ni_le (by omega) (by omega)]; omega⟩]
  have tl : ∀ x : Bool, f_X9_node_79 (some m) (nI l) (nI j) a b cc (nI N - 1) (bi x) h = if ((((x && (!(bb1 j) || inB b N)) && (!(decide (j = 10)) || inB cc N)) && (!(decide (j = 11)) || inB b 10)) && (!(decide (j = 12)) || inB b ns)) = true then f_X9_comesNode m (nI l) (nI j) a b cc h else some (-1, h) := fun x => by
    rw [rn_79 hN hj, rn_124 hN hj, rn_153 hj, rn_182 H e14 hs hj, rn_215 H]
  have t1 := tl true
  have t0 := tl false
  unfold f_X9_node f_X9_node_74 f_X9_node_78 fitB
  rw [getI_ok (ro_K H), Option.bind_some, u3, r_in_ok u1 (by omega), bnd_some, if_neg (by decide), i12, bnd_some, if_pos (by decide), ro_g2 H, Option.bind_some, ro_a2 H hl, Option.bind_some, e3]
  by_cases z1 : j = 1
  · rw [if_pos (show nI j = 1 by rw [z1]; rfl), decide_eq_true z1]
    exact t1
  · rw [if_neg (show ¬ nI j = 1 by rw [li1, ni_eq (by omega) (by omega)]; exact z1), decide_eq_false z1]
    by_cases z0 : j = 0
    · rw [if_neg (show ¬ ¬ nI j = 0 by rw [z0]; decide), ro_g0 H, Option.bind_some, ro_a0 H hl, Option.bind_some, e1, in_bi hn, bnd_some, if_pos z0]
      generalize inB a n = x
      cases x with
      | false => rw [if_pos (by decide)]; exact t0
      | true => rw [if_neg (by decide)]; exact t1
    · rw [if_pos (show ¬ nI j = 0 by rw [li0, ni_eq (by omega) (by omega)]; exact z0), in_bi hN, bnd_some, if_neg z0]
      generalize inB a N = x
      cases x with
      | false => rw [if_pos (by decide)]; exact t0
      | true => rw [if_neg (by decide)]; exact t1
