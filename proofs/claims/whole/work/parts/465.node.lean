/-! ===== a node comes: the heaps ===== -/
def adC (h : Hp) (L N : Nat) (k a b cc : Int32) (v : UInt64) : Hp := stI (stD (stI (stI (stI (stI h (L + 1) N k) (L + 2) N a) (L + 3) N b) (L + 4) N cc) (L + 5) N v) L 10 (nI (N + 1))
def adR (h : Hp) (m l N : Nat) (k a b cc : Int32) : Hp := stI (stI (stI (stI (stI h (m + 5) (48 * l + N) k) (m + 6) (48 * l + N) a) (m + 7) (48 * l + N) b) (m + 8) (48 * l + N) cc) (m + 3) l (nI (N + 1))
theorem stD_id {h : Hp} {a k : Nat} {v : UInt64} (e : hpD h a k = v) : stD h a k v = h := by
  rw [stD_rw, show up1 (hpD h a) k v = hpD h a by
    funext j
    unfold up1
    split
    · rename_i z; rw [z, e]
    · rfl]
  exact rwD_self _ _
theorem c_add {h : Hp} {L K sg n N : Nat} {k a b cc : Int32} {v : UInt64} (H : LO h L K sg n) (e : hpI h L 10 = nI N) (hN : N ≤ 48) : f_X1_add L k a b cc v h = if N < 48 then some (nI N, adC h L N k a b cc v) else some (-3, h) := by
  obtain ⟨K0, -, -, r5, r6, r7, r8, r9, -, -, k1, k2, k3, k4, k5, -, -⟩ := H
  unfold f_X1_add
  rw [getI_ok K0, Option.bind_some, e]
  by_cases z : N < 48
  · have f : ∀ g : Hp, hpI g L 10 = nI N → hpK g = hpK h → hpR g = hpR h → (getI g (some L) 1 10 = some (nI N) ∧ getR g (some L) 1 5 = some (some (L + 1)) ∧ getR g (some L) 1 6 = some (some (L + 2)) ∧ getR g (some L) 1 7 = some (some (L + 3)) ∧ getR g (some L) 1 8 = some (some (L + 4)) ∧ getR g (some L) 1 9 = some (some (L + 5))) ∧ ((∀ v, astI g (some (L + 1)) (nI N) v = some (stI g (L + 1) N v)) ∧ (∀ v, astI g (some (L + 2)) (nI N) v = some (stI g (L + 2) N v)) ∧ (∀ v, astI g (some (L + 3)) (nI N) v = some (stI g (L + 3) N v)) ∧ (∀ v, astI g (some (L + 4)) (nI N) v = some (stI g (L + 4) N v)) ∧ ∀ v, astD g (some (L + 5)) (nI N) v = some (stD g (L + 5) N v)) := fun g gI gK gR => by
      have K0' : hpK g L = some (1, 0) := by rw [gK]; exact K0
      refine ⟨⟨by rw [getI_ok K0', gI], by rw [getR_ok K0', gR, r5], by rw [getR_ok K0', gR, r6], by rw [getR_ok K0', gR, r7], by rw [getR_ok K0', gR, r8], by rw [getR_ok K0', gR, r9]⟩, fun v => ?_, fun v => ?_, fun v => ?_, fun v => ?_, fun v => ?_⟩
      · rw [astI_ok (n := 48) (by rw [gK]; exact k1) (ni_in z (by omega)), ni_cl (by omega)]
      · rw [astI_ok (n := 48) (by rw [gK]; exact k2) (ni_in z (by omega)), ni_cl (by omega)]
      · rw [astI_ok (n := 48) (by rw [gK]; exact k3) (ni_in z (by omega)), ni_cl (by omega)]
      · rw [astI_ok (n := 48) (by rw [gK]; exact k4) (ni_in z (by omega)), ni_cl (by omega)]
      · rw [astD_ok (n := 48) (by rw [gK]; exact k5) (ni_in z (by omega)), ni_cl (by omega)]
    have f0 := f h e rfl rfl
    have e1 : hpI (stI h (L + 1) N k) L 10 = nI N := by rw [hpI_stI_ne (Or.inl (by omega))]; exact e
    have f1 := f _ e1 rfl rfl
    have e2 : hpI (stI (stI h (L + 1) N k) (L + 2) N a) L 10 = nI N := by rw [hpI_stI_ne (Or.inl (by omega))]; exact e1
    have f2 := f _ e2 rfl rfl
    have e3 : hpI (stI (stI (stI h (L + 1) N k) (L + 2) N a) (L + 3) N b) L 10 = nI N := by rw [hpI_stI_ne (Or.inl (by omega))]; exact e2
    have f3 := f _ e3 rfl rfl
    have e4 : hpI (stI (stI (stI (stI h (L + 1) N k) (L + 2) N a) (L + 3) N b) (L + 4) N cc) L 10 = nI N := by rw [hpI_stI_ne (Or.inl (by omega))]; exact e3
    have f4 := f _ e4 rfl rfl
    have e5 : hpI (stD (stI (stI (stI (stI h (L + 1) N k) (L + 2) N a) (L + 3) N b) (L + 4) N cc) (L + 5) N v) L 10 = nI N := e4
    have f5 := f _ e5 rfl rfl
    have K5 : hpK (stD (stI (stI (stI (stI h (L + 1) N k) (L + 2) N a) (L + 3) N b) (L + 4) N cc) (L + 5) N v) L = some (1, 0) := K0
    have K6 : hpK (stI (stD (stI (stI (stI (stI h (L + 1) N k) (L + 2) N a) (L + 3) N b) (L + 4) N cc) (L + 5) N v) L 10 (nI (N + 1))) L = some (1, 0) := K0
    rw [if_pos z, if_pos (by rw [li48, ni_lt (by omega) (by omega)]; exact z), f0.1.2.1, Option.bind_some, Option.bind_some, f0.2.1, Option.bind_some, f1.1.2.2.1, Option.bind_some, f1.1.1, Option.bind_some, f1.2.2.1, Option.bind_some, f2.1.2.2.2.1, Option.bind_some, f2.1.1, Option.bind_some, f2.2.2.2.1, Option.bind_some, f3.1.2.2.2.2.1, Option.bind_some, f3.1.1, Option.bind_some, f3.2.2.2.2.1, Option.bind_some, f4.1.2.2.2.2.2, Option.bind_some, f4.1.1, Option.bind_some, f4.2.2.2.2.2, Option.bind_some, f5.1.1, Option.bind_some, putI_ok K5, Option.bind_some, show nI N + 1 = nI (N + 1) by rw [li1, ni_add], getI_ok K6, Option.bind_some, hpI_stI_self, show nI (N + 1) - 1 = nI N by rw [li1, ni_sub (by omega)]; rfl]
    rfl
  · rw [if_neg z, if_neg (by rw [li48, ni_lt (by omega) (by omega)]; exact z)]
theorem r_comes {h : Hp} {m l N : Nat} {k a b cc : Int32} (H : RO h m) (hl : l < 8) (e : hpI h (m + 3) l = nI N) (hN : N ≤ 48) : f_X9_comesNode m (nI l) k a b cc h = if N < 48 then some (nI N, adR h m l N k a b cc) else some (-3, h) := by
  unfold f_X9_comesNode
  rw [ro_g2 H, Option.bind_some, ro_a2 H hl, Option.bind_some, e]
  by_cases z : N < 48
  · have H1 : RO (stI h (m + 5) (48 * l + N) k) m := H
    have H2 : RO (stI (stI h (m + 5) (48 * l + N) k) (m + 6) (48 * l + N) a) m := H
    have H3 : RO (stI (stI (stI h (m + 5) (48 * l + N) k) (m + 6) (48 * l + N) a) (m + 7) (48 * l + N) b) m := H
    have H4 : RO (stI (stI (stI (stI h (m + 5) (48 * l + N) k) (m + 6) (48 * l + N) a) (m + 7) (48 * l + N) b) (m + 8) (48 * l + N) cc) m := H
    have H5 : RO (stI (stI (stI (stI (stI h (m + 5) (48 * l + N) k) (m + 6) (48 * l + N) a) (m + 7) (48 * l + N) b) (m + 8) (48 * l + N) cc) (m + 3) l (nI (N + 1))) m := H
    have e4 : hpI (stI (stI (stI (stI h (m + 5) (48 * l + N) k) (m + 6) (48 * l + N) a) (m + 7) (48 * l + N) b) (m + 8) (48 * l + N) cc) (m + 3) l = nI N := by
      rw [hpI_stI_ne (Or.inl (by omega)), hpI_stI_ne (Or.inl (by omega)), hpI_stI_ne (Or.inl (by omega)), hpI_stI_ne (Or.inl (by omega))]; exact e
    rw [if_pos z, if_pos (show ¬ nI N = 48 by rw [li48, ni_eq (by omega) (by omega)]; omega), Option.bind_some, ro_a2 H hl, Option.bind_some, e, ro_g4 H, Option.bind_some, show (48 : Int32) * nI l + nI N = nI (48 * l + N) by rw [li48, ni_mul, ni_add], ro_s4 H (by omega), Option.bind_some, ro_g5 H1, Option.bind_some, ro_s5 H1 (by omega), Option.bind_some, ro_g6 H2, Option.bind_some, ro_s6 H2 (by omega), Option.bind_some, ro_g7 H3, Option.bind_some, ro_s7 H3 (by omega), Option.bind_some, ro_g2 H4, Option.bind_some, ro_a2 H4 hl, Option.bind_some, e4, ro_s2 H4 hl, Option.bind_some, show nI N + 1 = nI (N + 1) by rw [li1, ni_add], ro_g2 H5, Option.bind_some, ro_a2 H5 hl, Option.bind_some, hpI_stI_self, show nI (N + 1) - 1 = nI N by rw [li1, ni_sub (by omega)]; rfl]
    rfl
  · rw [if_neg z, if_neg (show ¬ ¬ nI N = 48 by rw [li48, ni_eq (by omega) (by omega)]; omega)]
theorem ni_neg1 {q : Nat} (hq : q < 1000) : nI q ≠ -1 := fun e => by
  have := ni_toInt (a := q) (by omega)
  rw [e] at this
  have z : (-1 : Int32).toInt = -1 := by decide
  omega
theorem ig_node {bb : Nat} {h : Hp} {c nl ns nr : Nat} {Lw nv nn Ob : Nat → Nat} {ex : Nat → Bool} {rl : Nat → Nat} {Rc : Nat → RecT} {τ : Nat → Nat} (I : IG bb h c 9 nl ns nr Lw nv nn Ob ex rl Rc τ) {l : Nat} (hl : l < nl) (hN : nn l < 48) {k a b cc : Int32} {v : UInt64} (nd : NdOK (nv l) ns (nn l) k a b cc) (nm : Nm v) : INV bb (stD (adR (adC h (Lw l) (nn l) k a b cc v) (c + 66) l (nn l) k a b cc) (c + 66 + 9) (48 * l + nn l) v) c := by
  have X := I.1.1
  have hS := xo_S X
  obtain ⟨c1, c2, c3, c4, c5, c6, c7, c8, c9⟩ := I.2.1
  obtain ⟨l1, l2, l3, l4, l5, l6⟩ := I.2.2.1 l hl
  have bL := I.2.2.2.2.2.2.2.2.2.2.1 l hl
  obtain ⟨L, hLw⟩ : ∃ x, Lw l = x := ⟨_, rfl⟩
  obtain ⟨N, hnn⟩ : ∃ x, nn l = x := ⟨_, rfl⟩
  obtain ⟨n, hnv⟩ : ∃ x, nv l = x := ⟨_, rfl⟩
  rw [hLw] at l1 l2 l4 l5 l6 bL
  rw [hnn] at hN nd l3 l4 l6
  rw [hnv] at nd l2 l3 l4 l6
  rw [hLw, hnn]
  have bL1 := bL.1
  have bL2 := bL.2.1
  generalize e1 : adC h L N k a b cc v = h1
  generalize e2 : stD (adR h1 (c + 66) l N k a b cc) (c + 66 + 9) (48 * l + N) v = h2
  have G1 : Gr (fun a => L ≤ a ∧ a < L + 6) h h1 := by
    rw [← e1]
    exact (((((gr_stI (by omega)).trans (gr_stI (by omega))).trans (gr_stI (by omega))).trans (gr_stI (by omega))).trans (gr_stD (by omega))).trans (gr_stI (by omega))
  have G12 : Gr (fun a => a = c + 66 + 3 ∨ (c + 66 + 5 ≤ a ∧ a ≤ c + 66 + 9)) h1 h2 := by
    rw [← e2]
    exact (((((gr_stI (by omega)).trans (gr_stI (by omega))).trans (gr_stI (by omega))).trans (gr_stI (by omega))).trans (gr_stI (by omega))).trans (gr_stD (by omega))
  have G2 : Gr (fun a => (L ≤ a ∧ a < L + 6) ∨ a = c + 66 + 3 ∨ (c + 66 + 5 ≤ a ∧ a ≤ c + 66 + 9)) h h2 := (G1.mono (fun a _ z => Or.inl z)).trans (G12.mono (fun a _ z => Or.inr z))
  have S1 : hpS h1 = hpS h := by rw [← e1]; rfl
  have rR : hpR h2 = hpR h := by rw [← e2, ← e1]; rfl
  have kK : hpK h2 = hpK h := by rw [← e2, ← e1]; rfl
  have q2 : ∀ a, a < hpS h → ¬ (L ≤ a ∧ a < L + 6) → a ≠ c + 66 + 3 → ¬ (c + 66 + 5 ≤ a ∧ a ≤ c + 66 + 9) → hpI h2 a = hpI h a ∧ hpD h2 a = hpD h a := fun a ha z1 z2 z3 => ⟨((G2.2 a ha).2 (by omega)).1, ((G2.2 a ha).2 (by omega)).2.1⟩
  have lh : ∀ o, o < 10 → hpI h2 (L + o) = hpI h1 (L + o) ∧ hpD h2 (L + o) = hpD h1 (L + o) := fun o ho => ⟨((G12.2 _ (by omega)).2 (by omega)).1, ((G12.2 _ (by omega)).2 (by omega)).2.1⟩
  have lh0 : hpI h2 L = hpI h1 L := (lh 0 (by omega)).1
  have mh : ∀ o, o < 58 → hpI h1 (c + 66 + o) = hpI h (c + 66 + o) ∧ hpD h1 (c + 66 + o) = hpD h (c + 66 + o) := fun o ho => ⟨((G1.2 _ (by omega)).2 (by omega)).1, ((G1.2 _ (by omega)).2 (by omega)).2.1⟩
  have cI1 : ∀ j, hpI h2 (L + 1) j = if j = N then k else hpI h (L + 1) j := fun j => by
    rw [(lh 1 (by omega)).1, ← e1]; unfold adC
    rw [hpI_stI_ne (Or.inl (by omega)), hpI_stD, hpI_stI_ne (Or.inl (by omega)), hpI_stI_ne (Or.inl (by omega)), hpI_stI_ne (Or.inl (by omega)), hpI_stI, if_pos rfl]
  have cI2 : ∀ j, hpI h2 (L + 2) j = if j = N then a else hpI h (L + 2) j := fun j => by
    rw [(lh 2 (by omega)).1, ← e1]; unfold adC
    rw [hpI_stI_ne (Or.inl (by omega)), hpI_stD, hpI_stI_ne (Or.inl (by omega)), hpI_stI_ne (Or.inl (by omega)), hpI_stI, if_pos rfl, hpI_stI_ne (Or.inl (by omega))]
  have cI3 : ∀ j, hpI h2 (L + 3) j = if j = N then b else hpI h (L + 3) j := fun j => by
    rw [(lh 3 (by omega)).1, ← e1]; unfold adC
    rw [hpI_stI_ne (Or.inl (by omega)), hpI_stD, hpI_stI_ne (Or.inl (by omega)), hpI_stI, if_pos rfl, hpI_stI_ne (Or.inl (by omega)), hpI_stI_ne (Or.inl (by omega))]
  have cI4 : ∀ j, hpI h2 (L + 4) j = if j = N then cc else hpI h (L + 4) j := fun j => by
    rw [(lh 4 (by omega)).1, ← e1]; unfold adC
    rw [hpI_stI_ne (Or.inl (by omega)), hpI_stD, hpI_stI, if_pos rfl, hpI_stI_ne (Or.inl (by omega)), hpI_stI_ne (Or.inl (by omega)), hpI_stI_ne (Or.inl (by omega))]
  have cD5 : ∀ j, hpD h2 (L + 5) j = if j = N then v else hpD h (L + 5) j := fun j => by
    rw [(lh 5 (by omega)).2, ← e1]; unfold adC
    rw [hpD_stI, hpD_stD, if_pos rfl, hpD_stI, hpD_stI, hpD_stI, hpD_stI]
  have c10 : hpI h2 L 10 = nI (N + 1) := by rw [lh0, ← e1]; unfold adC; rw [hpI_stI_self]
  have cL : ∀ j, j ≠ 10 → hpI h2 L j = hpI h L j := fun j hj => by
    rw [lh0, ← e1]; unfold adC
    rw [hpI_stI_ne (Or.inr hj), hpI_stD, hpI_stI_ne (Or.inl (by omega)), hpI_stI_ne (Or.inl (by omega)), hpI_stI_ne (Or.inl (by omega)), hpI_stI_ne (Or.inl (by omega))]
  have m3 : ∀ j, hpI h2 (c + 66 + 3) j = if j = l then nI (N + 1) else hpI h (c + 66 + 3) j := fun j => by
    rw [← e2]; unfold adR
    rw [hpI_stD, hpI_stI, if_pos rfl, hpI_stI_ne (Or.inl (by omega)), hpI_stI_ne (Or.inl (by omega)), hpI_stI_ne (Or.inl (by omega)), hpI_stI_ne (Or.inl (by omega)), (mh 3 (by omega)).1]
  have m5 : ∀ j, hpI h2 (c + 66 + 5) j = if j = 48 * l + N then k else hpI h (c + 66 + 5) j := fun j => by
    rw [← e2]; unfold adR
    rw [hpI_stD, hpI_stI_ne (Or.inl (by omega)), hpI_stI_ne (Or.inl (by omega)), hpI_stI_ne (Or.inl (by omega)), hpI_stI_ne (Or.inl (by omega)), hpI_stI, if_pos rfl, (mh 5 (by omega)).1]
  have m6 : ∀ j, hpI h2 (c + 66 + 6) j = if j = 48 * l + N then a else hpI h (c + 66 + 6) j := fun j => by
    rw [← e2]; unfold adR
    rw [hpI_stD, hpI_stI_ne (Or.inl (by omega)), hpI_stI_ne (Or.inl (by omega)), hpI_stI_ne (Or.inl (by omega)), hpI_stI, if_pos rfl, hpI_stI_ne (Or.inl (by omega)), (mh 6 (by omega)).1]
  have m7 : ∀ j, hpI h2 (c + 66 + 7) j = if j = 48 * l + N then b else hpI h (c + 66 + 7) j := fun j => by
    rw [← e2]; unfold adR
    rw [hpI_stD, hpI_stI_ne (Or.inl (by omega)), hpI_stI_ne (Or.inl (by omega)), hpI_stI, if_pos rfl, hpI_stI_ne (Or.inl (by omega)), hpI_stI_ne (Or.inl (by omega)), (mh 7 (by omega)).1]
  have m8 : ∀ j, hpI h2 (c + 66 + 8) j = if j = 48 * l + N then cc else hpI h (c + 66 + 8) j := fun j => by
    rw [← e2]; unfold adR
    rw [hpI_stD, hpI_stI_ne (Or.inl (by omega)), hpI_stI, if_pos rfl, hpI_stI_ne (Or.inl (by omega)), hpI_stI_ne (Or.inl (by omega)), hpI_stI_ne (Or.inl (by omega)), (mh 8 (by omega)).1]
  have m9 : ∀ j, hpD h2 (c + 66 + 9) j = if j = 48 * l + N then v else hpD h (c + 66 + 9) j := fun j => by
    rw [← e2, hpD_stD, if_pos rfl]; unfold adR
    rw [hpD_stI, hpD_stI, hpD_stI, hpD_stI, hpD_stI, (mh 9 (by omega)).2]
  have m1 : hpI h2 (c + 66 + 1) = hpI h (c + 66 + 1) := (q2 _ (by omega) (by omega) (by omega) (by omega)).1
  have m2 : hpI h2 (c + 66 + 2) = hpI h (c + 66 + 2) := (q2 _ (by omega) (by omega) (by omega) (by omega)).1
  have m4 : hpI h2 (c + 66 + 4) = hpI h (c + 66 + 4) := (q2 _ (by omega) (by omega) (by omega) (by omega)).1
  have un : ∀ l', l' ≠ l → up1 nn l (N + 1) l' = nn l' := fun l' hne => up1_ne hne
  refine ig_bld (D := fun a => (L ≤ a ∧ a < L + 6) ∨ a = c + 66 + 3 ∨ (c + 66 + 5 ≤ a ∧ a ≤ c + 66 + 9)) (nl' := nl) (ns' := ns) (Lw' := Lw) (nv' := nv) (nn' := up1 nn l (N + 1)) (τ' := τ) I G2 (fun a _ z => ?_) (fun x hx => rfl) (by rw [rR]) (by rw [rR]) ?_ ?_ ?_ ?_ ?_ ?_ ⟨by omega, fun l' hl' => ?_⟩
  · rcases z with z | z
    · right; right; right; right
      exact ⟨by omega, by rw [bL.2.2 a z.1 (by omega)]; omega⟩
    · omega
  · unfold IC
    rw [(q2 c (by omega) (by omega) (by omega) (by omega)).1, (q2 (c + 66) (by omega) (by omega) (by omega) (by omega)).1]
    exact I.2.1
  · intro l' hl'
    by_cases e : l' = l
    · subst e
      rw [up1_self, hLw, hnv]
      obtain ⟨w1, w2, w3, w4, w5, w6, w7⟩ := l3
      obtain ⟨g1, g2, g3, g4, g5, g6⟩ := l4
      obtain ⟨⟨s1, s2⟩, E, s3, s4, s5⟩ := l6
      refine ⟨by rw [rR]; exact l1, ?_, ⟨w1, by omega, w3, w4, by rw [m1]; exact w5, by rw [m3, if_pos rfl], fun q hq => ?_⟩, ⟨by rw [cL 0 (by omega)]; exact g1, by rw [cL 1 (by omega)]; exact g2, by rw [cL 2 (by omega), m2]; exact g3, c10, fun q hq => ?_, fun i hi => ?_⟩, ?_, ⟨fun i hi => ?_, fun q h1 h2 => ?_⟩, E, by rw [cL 12 (by omega)]; exact s3, by omega, fun i hi q hq z => ?_⟩
      · unfold LO RW at l2 ⊢; rw [kK, rR]; exact l2
      · rw [m5, m6, m7, m8, m9]
        by_cases u : q = N
        · rw [u, if_pos rfl, if_pos rfl, if_pos rfl, if_pos rfl, if_pos rfl]; exact ⟨nd, Or.inl nm⟩
        · rw [if_neg (by omega), if_neg (by omega), if_neg (by omega), if_neg (by omega), if_neg (by omega)]; exact w7 q (by omega)
      · rw [m5, m6, m7, m8, m9, cI1, cI2, cI3, cI4, cD5]
        by_cases u : q = N
        · rw [u, if_pos rfl, if_pos rfl, if_pos rfl, if_pos rfl, if_pos rfl, if_pos rfl, if_pos rfl, if_pos rfl, if_pos rfl, if_pos rfl]; exact ⟨rfl, rfl, rfl, rfl, rfl, nm⟩
        · rw [if_neg u, if_neg u, if_neg u, if_neg u, if_neg u, if_neg (by omega), if_neg (by omega), if_neg (by omega), if_neg (by omega), if_neg (by omega)]; exact g5 q (by omega)
      · rw [(q2 (L + 9) (by omega) (by omega) (by omega) (by omega)).1, m4]; exact g6 i hi
      · intro i hi
        rw [show L + 6 + 1 = L + 7 by omega, show L + 6 + 2 = L + 8 by omega, (q2 (L + 7) (by omega) (by omega) (by omega) (by omega)).2, (q2 (L + 8) (by omega) (by omega) (by omega) (by omega)).1]
        exact l5 i hi
      · rw [m4]
        rcases s1 i hi with z | ⟨q, z1, z2⟩
        · exact Or.inl z
        · exact Or.inr ⟨q, by omega, z2⟩
      · rw [m9, if_neg (by omega)]; exact s2 q (by omega) h2
      · rw [m4] at z
        rcases s1 i hi with y | ⟨q', z1, z2⟩
        · exact absurd (z.symm.trans y) (ni_neg1 (by omega))
        · have : q' = q := by rw [z2, ni_eq (by omega) (by omega)] at z; exact z
          exact s5 i hi q (by omega) z
    · rw [un l' e]
      have bl := I.2.2.2.2.2.2.2.2.2.2.1 l' hl'
      have bl1 := bl.1
      have dj := bk_dj bl bL (by omega) (by omega) (by omega)
      have hw := (I.2.2.1 l' hl').2.2.1
      refine mel_li G2 ⟨fun o h1 h2 => ?_, fun i hi => by rw [m4], fun q hq => ⟨fun o h1 h2 => ?_, ?_⟩⟩ (by omega) bl.2.1 (fun a h1 h2 z => by omega) (by rw [rR]) (I.2.2.1 l' hl')
      · rcases (show o = 1 ∨ o = 2 ∨ o = 3 by omega) with u | u | u
        · rw [u, m1]
        · rw [u, m2]
        · rw [u, m3, if_neg e]
      · rcases (show o = 5 ∨ o = 6 ∨ o = 7 ∨ o = 8 by omega) with u | u | u | u
        · rw [u, m5, if_neg (by omega)]
        · rw [u, m6, if_neg (by omega)]
        · rw [u, m7, if_neg (by omega)]
        · rw [u, m8, if_neg (by omega)]
      · rw [m9, if_neg (by omega)]
  · intro l' h1' h2'
    obtain ⟨u1, u2, u3⟩ := I.2.2.2.1 l' h1' h2'
    exact ⟨by rw [m3, if_neg (by omega)]; exact u1, fun i hi => by rw [m4]; exact u2 i hi, fun q hq => by rw [m9, if_neg (by omega)]; exact u3 q hq⟩
  · exact is_same G2 hS (fun o h1 h2 => q2 _ (by omega) (by omega) (by omega) (by omega)) (by rw [rR]) (fun s hs S hS2 => I.2.2.2.2.2.2.2.2.2.2.2.1 s hs S hS2) (fun s hs S hS2 a h1 h2 z => by
      have bS := I.2.2.2.2.2.2.2.2.2.2.2.1 s hs S hS2
      have bS1 := bS.1
      have dj := bk_dj bS bL (by omega) (by omega) (by omega)
      omega) I.2.2.2.2.1
  · intro l' hl'
    exact gr_bk G2 (fun x hx => rfl) (I.2.2.2.2.2.2.2.2.2.2.1 l' hl')
  · intro s' hs' S' hS2
    rw [rR] at hS2
    exact gr_bk G2 (fun x hx => rfl) (I.2.2.2.2.2.2.2.2.2.2.2.1 s' hs' S' hS2)
  · by_cases e : l' = l
    · subst e
      rw [up1_self]
      refine ⟨rfl, rfl, by omega, fun z i hi => ?_⟩
      obtain ⟨s, z1, z2⟩ := z i hi
      exact ⟨s, by rw [m4]; exact z1, by omega⟩
    · rw [un l' e]
      exact ⟨rfl, rfl, Nat.le_refl _, fun z => by unfold SdOK; rw [m4]; exact z⟩
