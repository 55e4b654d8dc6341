/-! ===== the reference, new ===== -/
def RI (h0 g : Hp) (m n F : Nat) : Prop := hpS g = m + n + 1 ∧ (∀ k, hpR g m k = if k < F then mR m k else none) ∧ (∀ q, q ≤ n → hpK g (m + q) = some (mKd q)) ∧ Ux (fun _ => False) m h0 g ∧ Zr m (m + n + 1) g
theorem ri_step {h0 g : Hp} {m n F j t N : Nat} (P : RI h0 g m n F) (hj : F ≤ j) (gap : ∀ k, F ≤ k → k < j → mR m k = none) (hR : mR m j = some (m + n + 1)) (hK : mKd (n + 1) = (t, N)) : RI h0 (stR (alo g (t, N)) m j (some (m + n + 1))) m (n + 1) (j + 1) := by
  obtain ⟨s, r, k, u, z⟩ := P
  have a := an_mk (t := t) (N := N) (j := j) (show m < m + n + 1 by omega) s
  generalize stR (alo g (t, N)) m j (some (m + n + 1)) = g2 at a
  refine ⟨a.1, fun i => ?_, fun q hq => ?_, ((u.mono (fun x _ e => e.elim)).trans a.2.2.2.1 (by omega)).mono (fun x hx e => by have e2 : x = m := e; omega), a.2.2.2.2 m z⟩
  · rw [a.2.2.1]; unfold up1
    by_cases e : i = j
    · rw [if_pos e, if_pos (by omega), e, hR]
    · rw [if_neg e, r]
      by_cases y : i < F
      · rw [if_pos y, if_pos (by omega)]
      · rw [if_neg y]
        by_cases v : i < j + 1
        · rw [if_pos v]; exact (gap i (by omega) (by omega)).symm
        · rw [if_neg v]
  · by_cases e : q = n + 1
    · rw [e, hK]; exact a.2.1
    · rw [(a.2.2.2.1 (m + q) (by omega)).1]; exact k q (by omega)
def DnU (Q : Hp → Prop) (o : Option (Unit × Hp)) : Prop := ∃ h', o = some ((), h') ∧ Q h'
theorem ri_go {Q : Hp → Prop} {h0 g : Hp} {m n F j t N : Nat} {v : Int32} {K : Hp → Option (Unit × Hp)} (P : RI h0 g m n F) (hv : v = nI N) (hN : N ≤ 1000) (hj : F ≤ j) (gap : ∀ k, F ≤ k → k < j → mR m k = none) (hR : mR m j = some (m + n + 1)) (hK : mKd (n + 1) = (t, N)) (k : ∀ g', RI h0 g' m (n + 1) (j + 1) → DnU Q (K g')) : DnU Q (bnd (newa g t v) fun x h1 => (putR h1 (some m) 9 j x).bind fun h2 => K h2) := by
  have K0 : hpK g m = some (9, 0) := P.2.2.1 0 (by omega)
  rw [hv, newa_ok hN, bnd_some, P.1, an_put (by omega) P.1 K0, Option.bind_some]
  exact k _ (ri_step P hj gap hR hK)
def NS (g g' : Hp) (m i : Nat) : Prop := hpS g' = hpS g ∧ hpK g' = hpK g ∧ hpR g' = hpR g ∧ hpD g' = hpD g ∧ (∀ a, a ≠ m + 4 → hpI g' a = hpI g a) ∧ ∀ j, hpI g' (m + 4) j = if i ≤ j ∧ j < 48 then -1 else hpI g (m + 4) j
theorem ns_loop {m : Nat} : ∀ k i f (g : Hp), RO g m → i + k = 48 → k < f → ∃ g', f_X9_init_469 f (some m) (nI i) g = some ((), g') ∧ NS g g' m i := by
  intro k
  induction k with
  | zero =>
    intro i f g H e hf
    cases f with
    | zero => omega
    | succ f =>
      refine ⟨g, ?_, rfl, rfl, rfl, rfl, fun _ _ => rfl, fun j => by rw [if_neg (by omega)]⟩
      unfold f_X9_init_469
      rw [if_pos (by rw [li48, ni_le (by omega) (by omega)]; omega)]
  | succ k ih =>
    intro i f g H e hf
    cases f with
    | zero => omega
    | succ f =>
      have H1 : RO (stI g (m + 4) i (-1)) m := H
      obtain ⟨g', u, n1, n2, n3, n4, n5, n6⟩ := ih (i + 1) f _ H1 (by omega) (by omega)
      refine ⟨g', ?_, n1, n2, n3, n4, fun a ha => by rw [n5 a ha]; exact hpI_stI_row ha, fun j => ?_⟩
      · unfold f_X9_init_469
        rw [if_neg (by rw [li48, ni_le (by omega) (by omega)]; omega), ro_g3 H, Option.bind_some, ro_s3 H (by omega), Option.bind_some, show nI i + 1 = nI (i + 1) by rw [li1, ni_add]]
        exact u
      · rw [n6, hpI_stI, if_pos rfl]
        by_cases y : j = i
        · rw [if_neg (by omega), if_pos y, if_pos (by omega)]
        · by_cases z : i + 1 ≤ j ∧ j < 48
          · rw [if_pos z, if_pos (by omega)]
          · rw [if_neg z, if_neg y, if_neg (by omega)]
theorem mR_hi {m k : Nat} (hk : 60 ≤ k) : mR m k = none := by
  unfold mR
  split
  all_goals first | rfl | omega
set_option maxHeartbeats 4000000 in
set_option maxRecDepth 100000 in
theorem ref_new (h : Hp) : ∃ h', f_X9_init (hpS h) (alo h (9, 0)) = some ((), h') ∧ hpS h' = hpS h + 58 ∧ RO h' (hpS h) ∧ Ux (fun _ => False) (hpS h) h h' ∧ (∀ a, hpS h ≤ a → a < hpS h + 58 → (a ≠ hpS h + 4 → ∀ j, hpI h' a j = 0) ∧ ∀ j, hpD h' a j = 0) ∧ ∀ j, j < 48 → hpI h' (hpS h + 4) j = -1 := by
  generalize eT : hpS h = m
  have P0 : RI h (alo h (9, 0)) m 0 0 := by
    refine ⟨by rw [hpS_alo, eT], fun k => ?_, fun q hq => ?_, ?_, ?_⟩
    · rw [if_neg (by omega), hpR_alo, if_pos eT.symm]
    · rw [show q = 0 by omega, hpK_alo, if_pos (by omega)]; rfl
    · have a : Ux (fun _ => False) (hpS h) h (alo h (9, 0)) := ux_alo
      rw [eT] at a; exact a
    · have := zr_alo (kd := (9, 0)) (q := m) (h := h) (fun a h1 h2 => by omega)
      rw [hpS_alo, eT] at this; exact this
  suffices D : DnU (fun h' => hpS h' = m + 58 ∧ RO h' m ∧ Ux (fun _ => False) m h h' ∧ (∀ a, m ≤ a → a < m + 58 → (a ≠ m + 4 → ∀ j, hpI h' a j = 0) ∧ ∀ j, hpD h' a j = 0) ∧ ∀ j, j < 48 → hpI h' (m + 4) j = -1) (f_X9_init m (alo h (9, 0))) by
    exact D
  unfold f_X9_init
  refine ri_go (N := 8) P0 rfl (by omega) (by omega) (fun k h1 h2 => by omega) rfl rfl (fun g1 P1 => ?_)
  refine ri_go (N := 8) P1 rfl (by omega) (by omega) (fun k h1 h2 => by omega) rfl rfl (fun g2 P2 => ?_)
  refine ri_go (N := 8) P2 rfl (by omega) (by omega) (fun k h1 h2 => by omega) rfl rfl (fun g3 P3 => ?_)
  refine ri_go (N := 48) P3 rfl (by omega) (by omega) (fun k h1 h2 => by omega) rfl rfl (fun g4 P4 => ?_)
  refine ri_go (N := 384) P4 rfl (by omega) (by omega) (fun k h1 h2 => by omega) rfl rfl (fun g5 P5 => ?_)
  refine ri_go (N := 384) P5 rfl (by omega) (by omega) (fun k h1 h2 => by omega) rfl rfl (fun g6 P6 => ?_)
  refine ri_go (N := 384) P6 rfl (by omega) (by omega) (fun k h1 h2 => by omega) rfl rfl (fun g7 P7 => ?_)
  refine ri_go (N := 384) P7 rfl (by omega) (by omega) (fun k h1 h2 => by omega) rfl rfl (fun g8 P8 => ?_)
  refine ri_go (N := 384) P8 rfl (by omega) (by omega) (fun k h1 h2 => by omega) rfl rfl (fun g9 P9 => ?_)
  refine ri_go (N := 8) P9 rfl (by omega) (by omega) (fun k h1 h2 => by rw [show k = 9 by omega]; rfl) rfl rfl (fun g10 P10 => ?_)
  refine ri_go (N := 8) P10 rfl (by omega) (by omega) (fun k h1 h2 => by omega) rfl rfl (fun g11 P11 => ?_)
  refine ri_go (N := 128) P11 rfl (by omega) (by omega) (fun k h1 h2 => by omega) rfl rfl (fun g12 P12 => ?_)
  refine ri_go (N := 128) P12 rfl (by omega) (by omega) (fun k h1 h2 => by omega) rfl rfl (fun g13 P13 => ?_)
  refine ri_go (N := 9) P13 rfl (by omega) (by omega) (fun k h1 h2 => by rw [show k = 14 by omega]; rfl) rfl rfl (fun g14 P14 => ?_)
  refine ri_go (N := 9) P14 rfl (by omega) (by omega) (fun k h1 h2 => by omega) rfl rfl (fun g15 P15 => ?_)
  refine ri_go (N := 9) P15 rfl (by omega) (by omega) (fun k h1 h2 => by omega) rfl rfl (fun g16 P16 => ?_)
  refine ri_go (N := 9) P16 rfl (by omega) (by omega) (fun k h1 h2 => by omega) rfl rfl (fun g17 P17 => ?_)
  refine ri_go (N := 9) P17 rfl (by omega) (by omega) (fun k h1 h2 => by omega) rfl rfl (fun g18 P18 => ?_)
  refine ri_go (N := 9) P18 rfl (by omega) (by omega) (fun k h1 h2 => by omega) rfl rfl (fun g19 P19 => ?_)
  refine ri_go (N := 9) P19 rfl (by omega) (by omega) (fun k h1 h2 => by omega) rfl rfl (fun g20 P20 => ?_)
  refine ri_go (N := 9) P20 rfl (by omega) (by omega) (fun k h1 h2 => by omega) rfl rfl (fun g21 P21 => ?_)
  refine ri_go (N := 9) P21 rfl (by omega) (by omega) (fun k h1 h2 => by omega) rfl rfl (fun g22 P22 => ?_)
  refine ri_go (N := 4) P22 rfl (by omega) (by omega) (fun k h1 h2 => by omega) rfl rfl (fun g23 P23 => ?_)
  refine ri_go (N := 9) P23 rfl (by omega) (by omega) (fun k h1 h2 => by omega) rfl rfl (fun g24 P24 => ?_)
  refine ri_go (N := 9) P24 rfl (by omega) (by omega) (fun k h1 h2 => by omega) rfl rfl (fun g25 P25 => ?_)
  refine ri_go (N := 9) P25 rfl (by omega) (by omega) (fun k h1 h2 => by omega) rfl rfl (fun g26 P26 => ?_)
  refine ri_go (N := 9) P26 rfl (by omega) (by omega) (fun k h1 h2 => by omega) rfl rfl (fun g27 P27 => ?_)
  refine ri_go (N := 9) P27 rfl (by omega) (by omega) (fun k h1 h2 => by omega) rfl rfl (fun g28 P28 => ?_)
  refine ri_go (N := 54) P28 rfl (by omega) (by omega) (fun k h1 h2 => by omega) rfl rfl (fun g29 P29 => ?_)
  refine ri_go (N := 36) P29 rfl (by omega) (by omega) (fun k h1 h2 => by omega) rfl rfl (fun g30 P30 => ?_)
  refine ri_go (N := 36) P30 rfl (by omega) (by omega) (fun k h1 h2 => by omega) rfl rfl (fun g31 P31 => ?_)
  refine ri_go (N := 36) P31 rfl (by omega) (by omega) (fun k h1 h2 => by omega) rfl rfl (fun g32 P32 => ?_)
  refine ri_go (N := 36) P32 rfl (by omega) (by omega) (fun k h1 h2 => by omega) rfl rfl (fun g33 P33 => ?_)
  refine ri_go (N := 576) P33 rfl (by omega) (by omega) (fun k h1 h2 => by omega) rfl rfl (fun g34 P34 => ?_)
  refine ri_go (N := 576) P34 rfl (by omega) (by omega) (fun k h1 h2 => by omega) rfl rfl (fun g35 P35 => ?_)
  refine ri_go (N := 9) P35 rfl (by omega) (by omega) (fun k h1 h2 => by omega) rfl rfl (fun g36 P36 => ?_)
  refine ri_go (N := 9) P36 rfl (by omega) (by omega) (fun k h1 h2 => by omega) rfl rfl (fun g37 P37 => ?_)
  refine ri_go (N := 9) P37 rfl (by omega) (by omega) (fun k h1 h2 => by omega) rfl rfl (fun g38 P38 => ?_)
  refine ri_go (N := 54) P38 rfl (by omega) (by omega) (fun k h1 h2 => by omega) rfl rfl (fun g39 P39 => ?_)
  refine ri_go (N := 54) P39 rfl (by omega) (by omega) (fun k h1 h2 => by omega) rfl rfl (fun g40 P40 => ?_)
  refine ri_go (N := 54) P40 rfl (by omega) (by omega) (fun k h1 h2 => by omega) rfl rfl (fun g41 P41 => ?_)
  refine ri_go (N := 54) P41 rfl (by omega) (by omega) (fun k h1 h2 => by omega) rfl rfl (fun g42 P42 => ?_)
  refine ri_go (N := 270) P42 rfl (by omega) (by omega) (fun k h1 h2 => by omega) rfl rfl (fun g43 P43 => ?_)
  refine ri_go (N := 48) P43 rfl (by omega) (by omega) (fun k h1 h2 => by rw [show k = 45 by omega]; rfl) rfl rfl (fun g44 P44 => ?_)
  refine ri_go (N := 6) P44 rfl (by omega) (by omega) (fun k h1 h2 => by omega) rfl rfl (fun g45 P45 => ?_)
  refine ri_go (N := 6) P45 rfl (by omega) (by omega) (fun k h1 h2 => by omega) rfl rfl (fun g46 P46 => ?_)
  refine ri_go (N := 6) P46 rfl (by omega) (by omega) (fun k h1 h2 => by omega) rfl rfl (fun g47 P47 => ?_)
  refine ri_go (N := 6) P47 rfl (by omega) (by omega) (fun k h1 h2 => by omega) rfl rfl (fun g48 P48 => ?_)
  refine ri_go (N := 6) P48 rfl (by omega) (by omega) (fun k h1 h2 => by omega) rfl rfl (fun g49 P49 => ?_)
  refine ri_go (N := 6) P49 rfl (by omega) (by omega) (fun k h1 h2 => by omega) rfl rfl (fun g50 P50 => ?_)
  refine ri_go (N := 6) P50 rfl (by omega) (by omega) (fun k h1 h2 => by omega) rfl rfl (fun g51 P51 => ?_)
  refine ri_go (N := 6) P51 rfl (by omega) (by omega) (fun k h1 h2 => by omega) rfl rfl (fun g52 P52 => ?_)
  refine ri_go (N := 6) P52 rfl (by omega) (by omega) (fun k h1 h2 => by omega) rfl rfl (fun g53 P53 => ?_)
  refine ri_go (N := 6) P53 rfl (by omega) (by omega) (fun k h1 h2 => by omega) rfl rfl (fun g54 P54 => ?_)
  refine ri_go (N := 6) P54 rfl (by omega) (by omega) (fun k h1 h2 => by omega) rfl rfl (fun g55 P55 => ?_)
  refine ri_go (N := 4) P55 rfl (by omega) (by omega) (fun k h1 h2 => by omega) rfl rfl (fun g56 P56 => ?_)
  refine ri_go (N := 4) P56 rfl (by omega) (by omega) (fun k h1 h2 => by omega) rfl rfl (fun g57 P57 => ?_)
  obtain ⟨s, r, k, u, z⟩ := P57
  have H : RO g57 m := ⟨fun i => by
    rw [r]
    by_cases y : i < 60
    · rw [if_pos y]
    · rw [if_neg y, mR_hi (by omega)], fun q hq => k q (by omega)⟩
  obtain ⟨g', v, n1, n2, n3, n4, n5, n6⟩ := ns_loop 48 0 fuelN g57 H (by omega) (by unfold fuelN; omega)
  refine ⟨g', v, by rw [n1, s], ⟨fun i => by rw [n3]; exact H.1 i, fun q hq => by rw [n2]; exact H.2 q hq⟩, fun a ha => ?_, fun a h1 h2 => ⟨fun ne j => by rw [n5 a ne]; exact (z a h1 (by omega)).1 j, fun j => by rw [n4]; exact (z a h1 (by omega)).2 j⟩, fun j hj => by rw [n6, if_pos ⟨by omega, hj⟩]⟩
  obtain ⟨u1, u2, u3, u4⟩ := u a ha
  exact ⟨by rw [n2]; exact u1, by rw [n5 a (by omega)]; exact u2, by rw [n4]; exact u3, fun x => by rw [n3]; exact u4 x⟩
