/-! ===== the class reckons a node ===== -/
theorem c_signOf {h : Hp} {L k sg n q : Nat} (H : LO h L k sg n) (r : RN h (L + 6) 48) (hq : q < 48) : f_X1_signOf L (nI q) h = some (sgo (RV h (L + 6) q), h) := by
  have R := lo_rw H
  rw [← sgo_nm r hq]
  unfold f_X1_signOf f_X1_signOf_43
  rw [lo_g13 H, Option.bind_some, rw_g1 R, Option.bind_some, rw_a1 R hq (by omega), Option.bind_some]
  by_cases q0 : hpI h (L + 6 + 2) q = 0
  · rw [if_pos q0, if_pos q0, Option.bind_some, rw_g0 R, Option.bind_some, rw_a0 R hq (by omega), Option.bind_some]
    split
    · split <;> rfl
    · rfl
  · rw [if_neg q0, if_neg q0]
theorem c_isNarrow {h : Hp} {L k sg n : Nat} (H : LO h L k sg n) (i : Int32) : f_X1_isNarrow L i h = some (if narB (hpI h L 2) i = true then 1 else 0, h) := by
  unfold f_X1_isNarrow f_X1_isNarrow_17 narB
  rw [lo_gi H, Option.bind_some]
  by_cases q : ((hpI h L 2) >>> (i &&& 31)) &&& 1 = 1
  · rw [if_neg (fun z => z q), if_pos (by decide), if_pos (by simpa using q)]
  · rw [if_pos q, if_pos (by decide), if_neg (by simpa using q)]
theorem c_reckoned {h : Hp} {m l L k sg n ns N q xr : Nat} {t : UInt64} (K : RK h k) (H : LO h L k sg n) (X : LwOK h m l n ns N) (hsg : SgOK h m ns) (C : LR h m l L n N) (G : SGc h m sg ns) (xw : RW h xr 6) (xn : RN h xr 6) (vn : RN h (L + 6) 48) (hq : q < N) (nt : Nm t) (k1 : k ≠ xr + 2) (k2 : k ≠ L + 6 + 2) (k3 : ∀ s S, s < ns → hpR h sg s = some S → S ≠ k) :
    ∃ x f, f_X1_reckoned L (nI q) t (some xr) (stI h k 1 0) = some (x, stI h k 1 f) ∧ Ev f x (wR h m l t (RV h xr) q (RV h (L + 6))) := by
  obtain ⟨hl, hN, hn1, hn6, e1, e3, hnd⟩ := X
  obtain ⟨⟨kd, hk, hk13, h0, h1, h2, h3, h4, h5⟩, hcst⟩ := hnd q hq
  obtain ⟨cq1, cq2, cq3, cq4, cq5, cq6⟩ := C.2.2.2.2.1 q hq
  have hq48 : q < 48 := by omega
  have Hf : ∀ f, LO (stI h k 1 f) L k sg n := fun _ => H
  have Rf : ∀ f, RW (stI h k 1 f) (L + 6) 48 := fun _ => lo_rw H
  have Kf : ∀ f, RK (stI h k 1 f) k := fun _ => K
  have kL1 : k ≠ L + 1 := fun e => by have := H.2.2.2.2.2.2.2.2.2.2.1; rw [← e, K.1] at this; exact absurd this (by decide)
  have kL2 : k ≠ L + 2 := fun e => by have := H.2.2.2.2.2.2.2.2.2.2.2.1; rw [← e, K.1] at this; exact absurd this (by decide)
  have kL3 : k ≠ L + 3 := fun e => by have := H.2.2.2.2.2.2.2.2.2.2.2.2.1; rw [← e, K.1] at this; exact absurd this (by decide)
  have kL4 : k ≠ L + 4 := fun e => by have := H.2.2.2.2.2.2.2.2.2.2.2.2.2.1; rw [← e, K.1] at this; exact absurd this (by decide)
  have i1 : hpI (stI h k 1 0) (L + 1) q = nI kd := by rw [hpI_stI_ne (Or.inl (Ne.symm kL1)), cq1, hk]
  have i2 : hpI (stI h k 1 0) (L + 2) q = hpI h (m + 6) (48 * l + q) := by rw [hpI_stI_ne (Or.inl (Ne.symm kL2)), cq2]
  have i3 : hpI (stI h k 1 0) (L + 3) q = hpI h (m + 7) (48 * l + q) := by rw [hpI_stI_ne (Or.inl (Ne.symm kL3)), cq3]
  unfold f_X1_reckoned wR
  rw [lo_g6 (Hf 0), Option.bind_some, lo_a6 (Hf 0) hq48, Option.bind_some, i2, lo_g7 (Hf 0), Option.bind_some, lo_a7 (Hf 0) hq48, Option.bind_some, i3, lo_g5 (Hf 0), Option.bind_some, lo_a5 (Hf 0) hq48, Option.bind_some, i1]
  have hkt : tc (nI kd) = kd := ni_cl (by omega)
  have hti : (nI kd).toInt = (kd : Int) := ni_toInt (by omega)
  rw [hk, hkt, hti]
  have rd : ∀ (f : Int32) (a : Nat), a < 48 → (f = 0 ∨ f = 1) → f_X2_read k (some (L + 6)) (nI a) (stI h k 1 f) = some (hpD h (L + 6 + 1) a, stI h k 1 (fr f (hpI h (L + 6 + 2) a))) := fun f a ha hf => c_read K (lo_rw H) ha (by omega) k2 hf
  have kc : ∀ f, ab_ck (stI h k 1 f) (some k) (2, 0) = some k := fun f => rk_ck (Kf f)
  have g4 : ∀ f, getR (stI h k 1 f) (some L) 1 4 = some (some k) := fun f => lo_g4 (Hf f)
  have g13 : ∀ f, getR (stI h k 1 f) (some L) 1 13 = some (some (L + 6)) := fun f => lo_g13 (Hf f)
  -- two values read
  have two : ∀ a b, a < 48 → b < 48 → Ev2 (fr (fr 0 (hpI h (L + 6 + 2) a)) (hpI h (L + 6 + 2) b)) (hpD h (L + 6 + 1) a) (RV h (L + 6) a) (hpD h (L + 6 + 1) b) (RV h (L + 6) b) := fun a b ha hb => ev_read vn hb (ev_read0 vn ha)
  rcases (by omega : kd = 0 ∨ kd = 1 ∨ kd = 2 ∨ kd = 3 ∨ kd = 4 ∨ kd = 5 ∨ kd = 6 ∨ kd = 7 ∨ kd = 8 ∨ kd = 9 ∨ kd = 10 ∨ kd = 11 ∨ kd = 12 ∨ kd = 13) with rfl | rfl | rfl | rfl | rfl | rfl | rfl | rfl | rfl | rfl | rfl | rfl | rfl | rfl
  · obtain ⟨a', ea, la⟩ := h0 rfl
    rw [ea, if_neg (by decide), if_pos (by decide), g4, Option.bind_some, kc, Option.bind_some, c_read K xw (show a' < 6 by omega) (by omega) k1 (Or.inl rfl), bnd_some, show tc (nI a') = a' from ni_cl (by omega)]
    exact ⟨_, _, rfl, ev_read0 xn (by omega)⟩
  · rw [if_neg (by decide), if_neg (by decide), if_pos (by decide)]
    exact ⟨_, _, rfl, ev_num nt⟩
  · obtain ⟨a', ea, la⟩ := h1 (by omega)
    obtain ⟨b', eb, lb⟩ := h2 (by omega)
    rw [ea, eb, if_neg (by decide), if_neg (by decide), if_neg (by decide), if_pos (by decide)]
    simp only [g4, g13, kc, Option.bind_some, rd 0 a' (by omega) (Or.inl rfl), rd _ b' (by omega) (fr_01 _ _), bnd_some, c_sum K (vn a' (by omega)).1 (vn b' (by omega)).1]
    refine ⟨_, _, rfl, ?_⟩
    rw [show tc (nI a') = a' from ni_cl (by omega), show tc (nI b') = b' from ni_cl (by omega)]
    exact ev2_op hop_add (two a' b' (by omega) (by omega))
  · obtain ⟨a', ea, la⟩ := h1 (by omega)
    obtain ⟨b', eb, lb⟩ := h2 (by omega)
    rw [ea, eb, if_neg (by decide), if_neg (by decide), if_neg (by decide), if_neg (by decide), if_pos (by decide)]
    simp only [g4, g13, kc, Option.bind_some, rd 0 a' (by omega) (Or.inl rfl), rd _ b' (by omega) (fr_01 _ _), bnd_some, c_difference K (vn a' (by omega)).1 (vn b' (by omega)).1]
    refine ⟨_, _, rfl, ?_⟩
    rw [show tc (nI a') = a' from ni_cl (by omega), show tc (nI b') = b' from ni_cl (by omega)]
    exact ev2_op hop_sub (two a' b' (by omega) (by omega))
  · obtain ⟨a', ea, la⟩ := h1 (by omega)
    obtain ⟨b', eb, lb⟩ := h2 (by omega)
    rw [ea, eb, if_neg (by decide), if_neg (by decide), if_neg (by decide), if_neg (by decide), if_neg (by decide), if_pos (by decide)]
    simp only [g4, g13, kc, Option.bind_some, rd 0 a' (by omega) (Or.inl rfl), rd _ b' (by omega) (fr_01 _ _), bnd_some, c_product K (vn a' (by omega)).1 (vn b' (by omega)).1]
    refine ⟨_, _, rfl, ?_⟩
    rw [show tc (nI a') = a' from ni_cl (by omega), show tc (nI b') = b' from ni_cl (by omega)]
    exact ev2_op hop_mul (two a' b' (by omega) (by omega))
  · obtain ⟨a', ea, la⟩ := h1 (by omega)
    obtain ⟨b', eb, lb⟩ := h2 (by omega)
    rw [ea, eb, if_neg (by decide), if_neg (by decide), if_neg (by decide), if_neg (by decide), if_neg (by decide), if_neg (by decide), if_pos (by decide)]
    simp only [g4, g13, kc, Option.bind_some, rd 0 a' (by omega) (Or.inl rfl), rd _ b' (by omega) (fr_01 _ _), bnd_some, c_quotient K (vn a' (by omega)).1 (vn b' (by omega)).1]
    refine ⟨_, _, rfl, ?_⟩
    rw [show tc (nI a') = a' from ni_cl (by omega), show tc (nI b') = b' from ni_cl (by omega)]
    exact ev2_op hop_div (two a' b' (by omega) (by omega))
  · obtain ⟨a', ea, la⟩ := h1 (by omega)
    rw [ea, if_neg (by decide), if_neg (by decide), if_neg (by decide), if_neg (by decide), if_neg (by decide), if_neg (by decide), if_neg (by decide), if_pos (by decide)]
    simp only [g4, g13, kc, Option.bind_some, rd 0 a' (by omega) (Or.inl rfl), bnd_some]
    refine ⟨_, _, rfl, ?_⟩
    rw [show tc (nI a') = a' from ni_cl (by omega)]
    exact ev_dneg (ev_read0 vn (by omega))
  · obtain ⟨a', ea, la⟩ := h1 (by omega)
    rw [ea, if_neg (by decide), if_neg (by decide), if_neg (by decide), if_neg (by decide), if_neg (by decide), if_neg (by decide), if_neg (by decide), if_neg (by decide), if_pos (by decide)]
    simp only [g4, g13, kc, Option.bind_some, rd 0 a' (by omega) (Or.inl rfl), bnd_some, c_size (vn a' (by omega)).1]
    refine ⟨_, _, rfl, ?_⟩
    rw [show tc (nI a') = a' from ni_cl (by omega)]
    exact ev_mk (ev_read0 vn (by omega))
  · obtain ⟨a', ea, la⟩ := h1 (by omega)
    obtain ⟨b', eb, lb⟩ := h2 (by omega)
    rw [ea, eb, if_neg (by decide), if_neg (by decide), if_neg (by decide), if_neg (by decide), if_neg (by decide), if_neg (by decide), if_neg (by decide), if_neg (by decide), if_neg (by decide), if_pos (by decide)]
    simp only [g4, g13, kc, Option.bind_some, rd 0 a' (by omega) (Or.inl rfl), rd _ b' (by omega) (fr_01 _ _), bnd_some, c_lesser (vn a' (by omega)).1 (vn b' (by omega)).1]
    refine ⟨_, _, rfl, ?_⟩
    rw [show tc (nI a') = a' from ni_cl (by omega), show tc (nI b') = b' from ni_cl (by omega)]
    exact ev2_pick ls_nan1 (fun a ha => ls_nan2 ha) ls_or (two a' b' (by omega) (by omega)) (cv_RV vn (by omega))
  · obtain ⟨a', ea, la⟩ := h1 (by omega)
    obtain ⟨b', eb, lb⟩ := h2 (by omega)
    rw [ea, eb, if_neg (by decide), if_neg (by decide), if_neg (by decide), if_neg (by decide), if_neg (by decide), if_neg (by decide), if_neg (by decide), if_neg (by decide), if_neg (by decide), if_neg (by decide), if_pos (by decide)]
    simp only [g4, g13, kc, Option.bind_some, rd 0 a' (by omega) (Or.inl rfl), rd _ b' (by omega) (fr_01 _ _), bnd_some, c_greater (vn a' (by omega)).1 (vn b' (by omega)).1]
    refine ⟨_, _, rfl, ?_⟩
    rw [show tc (nI a') = a' from ni_cl (by omega), show tc (nI b') = b' from ni_cl (by omega)]
    exact ev2_pick gs_nan1 (fun a ha => gs_nan2 ha) gs_or (two a' b' (by omega) (by omega)) (cv_RV vn (by omega))
  · obtain ⟨a', ea, la⟩ := h1 (by omega)
    obtain ⟨b', eb, lb⟩ := h2 (by omega)
    obtain ⟨c', ec, lc⟩ := h3 rfl
    rw [ea, eb, if_neg (by decide), if_neg (by decide), if_neg (by decide), if_neg (by decide), if_neg (by decide), if_neg (by decide), if_neg (by decide), if_neg (by decide), if_neg (by decide), if_neg (by decide), if_neg (by decide), if_pos (by decide)]
    have k2' : L + 6 + 2 ≠ k := Ne.symm k2
    have vn0 : RN (stI h k 1 0) (L + 6) 48 := fun j hj => by rw [hpI_stI_ne (Or.inl k2')]; exact vn j hj
    have rv0 : RV (stI h k 1 0) (L + 6) a' = RV h (L + 6) a' := by unfold RV; rw [hpI_stI_ne (Or.inl k2')]; rfl
    have i4 : hpI (stI h k 1 0) (L + 4) q = nI c' := by rw [hpI_stI_ne (Or.inl (Ne.symm kL4)), cq4, ec]
    rw [g4, Option.bind_some, g13, Option.bind_some, lo_ck (Hf 0), Option.bind_some, c_signOf (Hf 0) vn0 (by omega), bnd_some, rv0]
    have sg1 : sgo (RV h (L + 6) a') = -1 ↔ ((ky (RV h (L + 6) a')).natAbs ≤ 9218868437227405312 ∧ ky (RV h (L + 6) a') < 0) := by
      unfold sgo
      by_cases p1 : (ky (RV h (L + 6) a')).natAbs ≤ 9218868437227405312
      · rw [if_pos p1]
        by_cases p2 : ky (RV h (L + 6) a') < 0
        · rw [if_pos p2]; exact ⟨fun _ => ⟨p1, p2⟩, fun _ => rfl⟩
        · rw [if_neg p2]
          constructor
          · intro z; split at z <;> exact absurd z (by decide)
          · intro z; exact absurd z.2 p2
      · rw [if_neg p1]
        exact ⟨fun z => absurd z (by decide), fun z => absurd z.1 p1⟩
    unfold f_X1_reckoned_367
    simp only [wV]
    rw [ec]
    rw [show tc (nI a') = a' from ni_cl (by omega), show tc (nI b') = b' from ni_cl (by omega), show tc (nI c') = c' from ni_cl (by omega)]
    by_cases p : sgo (RV h (L + 6) a') = -1
    · rw [if_neg (fun z => z p), if_pos (sg1.mp p), kc, Option.bind_some, rd 0 b' (by omega) (Or.inl rfl), bnd_some]
      exact ⟨_, _, rfl, ev_read0 vn (by omega)⟩
    · rw [if_pos p, if_neg (fun z => p (sg1.mpr z)), lo_g8 (Hf 0), Option.bind_some, lo_a8 (Hf 0) hq48, Option.bind_some, i4, kc, Option.bind_some, rd 0 c' (by omega) (Or.inl rfl), bnd_some]
      exact ⟨_, _, rfl, ev_read0 vn (by omega)⟩
  · obtain ⟨a', ea, la⟩ := h1 (by omega)
    obtain ⟨b', eb, lb⟩ := h4 rfl
    rw [ea, eb, if_neg (by decide), if_neg (by decide), if_neg (by decide), if_neg (by decide), if_neg (by decide), if_neg (by decide), if_neg (by decide), if_neg (by decide), if_neg (by decide), if_neg (by decide), if_neg (by decide), if_neg (by decide), if_pos (by decide)]
    unfold f_X1_reckoned_402
    simp only [wV]
    rw [show tc (nI a') = a' from ni_cl (by omega), show tc (nI b') = b' from ni_cl (by omega)]
    by_cases b0 : b' = 0
    · rw [if_neg (by rw [b0]; decide), b0]
      exact ⟨_, _, rfl, ev_num nm_1⟩
    · rw [if_pos (by rw [li0, ni_eq (by omega) (by omega)]; exact b0)]
      simp only [g4, g13, kc, Option.bind_some, rd 0 a' (by omega) (Or.inl rfl), bnd_some, c_power (vn a' (by omega)).1 b' (by omega)]
      exact ⟨_, _, rfl, ev_pw b0 (ev_read0 vn (by omega))⟩
  · obtain ⟨a', ea, la⟩ := h1 (by omega)
    obtain ⟨b', eb, lb⟩ := h5 rfl
    rw [ea, eb, if_neg (by decide), if_neg (by decide), if_neg (by decide), if_neg (by decide), if_neg (by decide), if_neg (by decide), if_neg (by decide), if_neg (by decide), if_neg (by decide), if_neg (by decide), if_neg (by decide), if_neg (by decide), if_neg (by decide), if_pos (by decide)]
    obtain ⟨S, p, s1, s2, s3, s4, s5, s6, s7, s8⟩ := G.2 b' lb
    have hb8 : b' < 8 := by have := hsg.1; omega
    have ar : aldR (stI h k 1 0) (some sg) 16 (nI b') = some (some S) := by
      rw [aldR_ok (show hpK (stI h k 1 0) sg = some (16, 8) from G.1) (ni_in hb8 (by omega)), ni_cl (by omega), hpR_stI, s1]
    have kS : S ≠ k := k3 b' S lb s1
    have gS3 : getI (stI h k 1 0) (some S) 5 3 = some (nI p) := by rw [getI_ok (show hpK (stI h k 1 0) S = some (5, 0) from s2.1), hpI_stI_ne (Or.inl kS), s4]
    unfold f_X1_reckoned_425 f_X1_reckoned_447
    simp only [wV]
    rw [show tc (nI a') = a' from ni_cl (by omega), show tc (nI b') = b' from ni_cl (by omega)]
    rw [lo_g3 (Hf 0), Option.bind_some, ar, Option.bind_some, if_neg (by simp), gS3, Option.bind_some]
    unfold sgR
    rw [s5, show tc (nI p) = p from ni_cl (by omega)]
    by_cases p0 : p = 0
    · rw [if_neg (by rw [p0]; decide), p0]
      exact ⟨_, _, rfl, ev_num nm_0⟩
    · rw [if_pos (by rw [li0, ni_eq (by omega) (by omega)]; exact p0)]
      have s2' : ∀ f, SO (stI h k 1 f) S := fun _ => s2
      have sc : ∀ f, ab_ck (stI h k 1 f) (some S) (5, 0) = some S := fun f => ck_ok (s2' f).1
      obtain ⟨v, v1, v2, v3⟩ := c_heightAt (h := stI h k 1 (fr 0 (hpI h (L + 6 + 2) a'))) (how := hpI h (m + 10) b') (a := hpD h (L + 6 + 1) a') (s2' _) s3 (by rw [hpI_stI_ne (Or.inl kS)]; exact s4) (by rw [hpI_stI_ne (Or.inl kS)]; exact s6) (fun j hj => (s7 j hj).1) (fun j hj => (s7 j hj).2) s8 (vn a' (by omega)).1
      simp only [g4, g13, kc, Option.bind_some, rd 0 a' (by omega) (Or.inl rfl), bnd_some, sc, v1]
      refine ⟨_, _, rfl, ?_⟩
      rw [← v3]
      exact ev_sg p0 (by rw [v3]; exact v2) (ev_read0 vn (by omega))
  · rw [if_pos (by decide), lo_g9 (Hf 0), Option.bind_some, lo_a9 (Hf 0) hq48, Option.bind_some, hpD_stI, cq5]
    simp only [wV]
    exact ⟨_, _, rfl, ev_num cq6⟩
