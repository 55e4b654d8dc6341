/-! ===== the class makes a step ===== -/
def PT (k L T a : Nat) : Prop := Pn k L a ∨ (T ≤ a ∧ a < T + 29)
theorem pt_bd {h : Hp} {m l n ns N k L sg T a : Nat} (W : WT h m l n ns N k L sg T) (b : Bd h m L sg ns a) : ¬ PT k L T a := by
  rintro (p | p)
  · exact pn_bd W.1 b p
  · obtain ⟨t1, t2, t3, t4⟩ := W.2.2.2
    rcases b with b | b | ⟨s, S, hs, hS, b⟩
    · omega
    · omega
    · have := t4 s hs S hS; omega
theorem wt_frT {h h' : Hp} {m l n ns N k L sg T : Nat} (W : WT h m l n ns N k L sg T) (F : Fr (PT k L T) h h') (K : RK h' k) (V : RN h' (L + 6) 48) (R : SN h' T) : WT h' m l n ns N k L sg T :=
  ⟨en_fr W.1 F (fun a b => pt_bd W b) K V, fr_ST F W.2.1, R, by unfold TS; rw [F.2.2.1]; exact W.2.2.2⟩
theorem pd_pt {k L T r a : Nat} (hr : IsR r) (p : Pd k L (T + r) a) : PT k L T a := by
  have := isr_le hr
  rcases p with p | p
  · exact Or.inl p
  · right; rcases p with e | e <;> omega
theorem pm_pt {k L T a : Nat} (p : Pm k L T a) : PT k L T a := by
  rcases p with p | p
  · exact Or.inl p
  · right; omega
/-- a step as it was made -/
def SD (h : Hp) (T n M : Nat) (F : FT) (nar : Int32) (t hf : UInt64) (x : Nat → UInt64) : Prop :=
  hpI h T 2 = nI M ∧ hpD h T 3 = t ∧ hpD h T 4 = hf ∧ hpD h T 5 = FP.dadd t hf ∧ hpI h T 13 = nI (gS F nar n M t hf x) ∧ (∀ i, i < n → RV h (T + 1) i = x i) ∧ (∀ i, i < n → RV h (T + 7) i = zS F nar n M t hf x i) ∧ (∀ j, j < sgN M → ∀ i, i < n → RV h (T + (11 + 3 * j)) i = kS F nar n M t hf x j i) ∧ (M = 4 → ∀ i, i < n → RV h (T + 23) i = eP F nar t hf x i)
theorem fn_end {x : UInt64} (hx : Nm x) : Fn x ↔ ¬ 0 < cg x 9218868437227405311 ∧ ¬ cl x (FP.dneg 9218868437227405311) < 0 := by
  have h : (ky x).natAbs ≤ 9218868437227405312 := hx
  rw [cg_gt, cl_lt, ky_most, ky_mstn]
  unfold Fn
  constructor
  · intro q
    exact ⟨fun z => z.elim (fun w => w ⟨hx, nm_most⟩) (fun w => by omega), fun z => z.elim (fun w => w ⟨hx, nm_mstn⟩) (fun w => by omega)⟩
  · rintro ⟨q1, q2⟩
    have a1 : ¬ (9218868437227405311 : Int) < ky x := fun z => q1 (Or.inr z)
    have a2 : ¬ ky x < -9218868437227405311 := fun z => q2 (Or.inr z)
    omega
theorem c_make_183 {h : Hp} {m l n ns N k L sg T : Nat} {w : Int32} {en : UInt64} {z : Nat → UInt64} (W : WT h m l n ns N k L sg T) (w01 : w = 0 ∨ w = 1) (ee : hpD h T 5 = en) (ne : Nm en) (hz : w = 1 → ∀ i, i < n → RV h (T + 7) i = z i) :
    ∃ w2, f_X6_make_183 (some T) w h = some (w2, h) ∧ (w2 = 0 ∨ w2 = 1) ∧ (w2 = 1 ↔ w = 1 ∧ (∀ i, i < n → Fn (z i)) ∧ Fn en) := by
  have S := W.2.1
  have hn := wt_n W
  have no : f_X6_make_240 h = some (0, h) := by unfold f_X6_make_240 f_X6_make_241; rw [if_pos (by decide)]
  unfold f_X6_make_183
  rcases w01 with rfl | rfl
  · rw [if_pos rfl, no]
    exact ⟨0, rfl, Or.inl rfl, fun q => absurd q (by decide), fun q => absurd q.1 (by decide)⟩
  · obtain ⟨v, r3, v01, v1⟩ := c_isFinite (st_r S i7) (W.2.2.1 _ i7) hn (by omega)
    have v1' : v = 1 ↔ ∀ i, i < n → Fn (z i) := v1.trans ⟨fun q i hi => by rw [← hz rfl i hi]; exact q i hi, fun q i hi => by rw [hz rfl i hi]; exact q i hi⟩
    have gk : getD h (some k) 2 0 = some 9218868437227405311 := by rw [getD_ok W.1.1.1, W.1.1.2]
    rw [if_neg (by decide), st_g8 S, Option.bind_some, st_g1 S, Option.bind_some, wt_gn W, Option.bind_some, rw_ck (st_r S i7), Option.bind_some, r3, bnd_some]
    by_cases z0 : v = 0
    · rw [if_pos z0, no]
      refine ⟨0, rfl, Or.inl rfl, fun q => absurd q (by decide), fun q => ?_⟩
      have := v1'.mpr q.2.1
      rw [z0] at this; exact absurd this (by decide)
    · have f1 := v1'.mp (w_ne v01 z0)
      rw [if_neg z0, st_gd S, Option.bind_some, st_g0 S, Option.bind_some, gk, Option.bind_some, ee]
      by_cases c1 : 0 < cg en 9218868437227405311
      · rw [if_pos c1, no]
        exact ⟨0, rfl, Or.inl rfl, fun q => absurd q (by decide), fun q => absurd c1 ((fn_end ne).mp q.2.2).1⟩
      · rw [if_neg c1, Option.bind_some, Option.bind_some, gk, Option.bind_some]
        by_cases c2 : cl en (FP.dneg 9218868437227405311) < 0
        · rw [if_pos c2, no]
          exact ⟨0, rfl, Or.inl rfl, fun q => absurd q (by decide), fun q => absurd c2 ((fn_end ne).mp q.2.2).2⟩
        · rw [if_neg c2]
          unfold f_X6_make_241
          rw [if_pos (by decide)]
          exact ⟨1, rfl, Or.inr rfl, fun _ => ⟨rfl, f1, (fn_end ne).mpr ⟨c1, c2⟩⟩, fun _ => rfl⟩
theorem c_plain {h : Hp} {m l n ns N k L sg T : Nat} {t hf : UInt64} (M0 : MS h m l n ns N k L sg T t hf) : ∃ h', f_X6_move T (some (T + 7)) hf 0 h = some ((), h') ∧ MQc h h' 1 m l n ns N k L sg T 0 t hf := by
  obtain ⟨W, et, eh, eg, nt, fh, hk, fk⟩ := M0
  obtain ⟨h1, e1, C1, v1, o1⟩ := cu_move 0 rfl (r := 7) (j := 0) (cu_refl W) (Or.inr rfl) (by omega) fh.fn.nm hk fk
  refine ⟨h1, e1, C1.2.1, C1.2.2.1, C1.2.2.2.1, by rw [C1.2.2.2.2], Or.inr rfl, ⟨fun _ => ⟨fun j hj i hi => ?_, fun q => absurd q (by decide), fun q => absurd q (by decide)⟩, fun _ => rfl⟩, fun _ => ⟨fun j hj i hi => ?_, v1, fun q => absurd q (by decide), by rw [C1.2.2.2.2, eg]; rfl⟩⟩
  · have : j < 1 := hj
    have e : j = 0 := by omega
    subst e; exact fk i hi
  · have : j < 1 := hj
    have e : j = 0 := by omega
    subst e
    show RV h1 (T + 11) i = _; rw [cu_x C1 (by omega)]; exact hk i hi
/-- all methods, behind k1 -/
theorem c_make_m {h : Hp} {m l n ns N k L sg T M : Nat} {t hf : UInt64} (M0 : MS h m l n ns N k L sg T t hf) (hM : M ≤ 6) (eM : hpI h T 2 = nI M) (ee : hpD h T 5 = FP.dadd t hf) :
    ∃ w w2 h', ((getI h (some T) 6 2).bind fun x25 =>
    if x25.toInt < 0 ∨ 5 < x25.toInt then
      (ab_ck h (some T) (6, 0)).bind fun a30 =>
      bnd (f_X6_leap a30 h) fun x27 h28 =>
      f_X6_make_183 (some T) x27 h28
    else if x25 = 0 then
      (getR h (some T) 6 8).bind fun x33 =>
      (getD h (some T) 6 4).bind fun x34 =>
      (ab_ck h (some T) (6, 0)).bind fun a38 =>
      bnd (f_X6_move a38 x33 x34 0 h) fun _ h36 =>
      f_X6_make_183 (some T) 1 h36
    else if x25 = 1 then
      (ab_ck h (some T) (6, 0)).bind fun a44 =>
      bnd (f_X6_middle a44 h) fun x41 h42 =>
      f_X6_make_183 (some T) x41 h42
    else if x25 = 2 then
      (ab_ck h (some T) (6, 0)).bind fun a50 =>
      bnd (f_X6_third a50 h) fun x47 h48 =>
      f_X6_make_183 (some T) x47 h48
    else if x25 = 3 then
      (ab_ck h (some T) (6, 0)).bind fun a56 =>
      bnd (f_X6_fourth a56 h) fun x53 h54 =>
      f_X6_make_183 (some T) x53 h54
    else if x25 = 4 then
      (ab_ck h (some T) (6, 0)).bind fun a62 =>
      bnd (f_X6_pair a62 h) fun x59 h60 =>
      f_X6_make_183 (some T) x59 h60
    else if x25 = 5 then
      (ab_ck h (some T) (6, 0)).bind fun a68 =>
      bnd (f_X6_backward a68 h) fun x65 h66 =>
      f_X6_make_183 (some T) x65 h66
    else none) = some (w2, h') ∧ MQc h h' w m l n ns N k L sg T M t hf ∧ (w2 = 0 ∨ w2 = 1) ∧ (w2 = 1 ↔ w = 1 ∧ (∀ i, i < n → Fn (zS (fR h m l N) (hpI h (m + 2) l) n M t hf (RV h (T + 1)) i)) ∧ Fn (FP.dadd t hf)) := by
  have W := M0.1
  have S := W.2.1
  have ne : Nm (FP.dadd t hf) := add_nm2 M0.2.2.2.2.1 M0.2.2.2.2.2.1.fn
  have fin : ∀ (w : Int32) (h' : Hp), MQc h h' w m l n ns N k L sg T M t hf → ∃ w2, f_X6_make_183 (some T) w h' = some (w2, h') ∧ (w2 = 0 ∨ w2 = 1) ∧ (w2 = 1 ↔ w = 1 ∧ (∀ i, i < n → Fn (zS (fR h m l N) (hpI h (m + 2) l) n M t hf (RV h (T + 1)) i)) ∧ Fn (FP.dadd t hf)) := fun w h' Q =>
    c_make_183 Q.1 Q.2.2.2.2.1 (by rw [Q.2.2.1]; exact ee) ne (fun z => (Q.2.2.2.2.2.2 z).2.1)
  rw [st_gi S, Option.bind_some, eM]
  rcases (by omega : M = 0 ∨ M = 1 ∨ M = 2 ∨ M = 3 ∨ M = 4 ∨ M = 5 ∨ M = 6) with rfl | rfl | rfl | rfl | rfl | rfl | rfl
  · obtain ⟨h', e, Q⟩ := c_plain M0
    obtain ⟨w2, e2, p, q⟩ := fin _ h' Q
    rw [if_neg (by decide), if_pos (by decide), st_g8 S, Option.bind_some, st_gd S, Option.bind_some, M0.2.2.1, st_ck S, Option.bind_some, e, bnd_some, e2]
    exact ⟨1, w2, h', rfl, Q, p, q⟩
  · obtain ⟨w, h', e, Q⟩ := c_middle M0
    obtain ⟨w2, e2, p, q⟩ := fin _ h' Q
    rw [if_neg (by decide), if_neg (by decide), if_pos (by decide), st_ck S, Option.bind_some, e, bnd_some, e2]
    exact ⟨w, w2, h', rfl, Q, p, q⟩
  · obtain ⟨w, h', e, Q⟩ := c_third M0
    obtain ⟨w2, e2, p, q⟩ := fin _ h' Q
    rw [if_neg (by decide), if_neg (by decide), if_neg (by decide), if_pos (by decide), st_ck S, Option.bind_some, e, bnd_some, e2]
    exact ⟨w, w2, h', rfl, Q, p, q⟩
  · obtain ⟨w, h', e, Q⟩ := c_fourth M0
    obtain ⟨w2, e2, p, q⟩ := fin _ h' Q
    rw [if_neg (by decide), if_neg (by decide), if_neg (by decide), if_neg (by decide), if_pos (by decide), st_ck S, Option.bind_some, e, bnd_some, e2]
    exact ⟨w, w2, h', rfl, Q, p, q⟩
  · obtain ⟨w, h', e, Q⟩ := c_pair M0
    obtain ⟨w2, e2, p, q⟩ := fin _ h' Q
    rw [if_neg (by decide), if_neg (by decide), if_neg (by decide), if_neg (by decide), if_neg (by decide), if_pos (by decide), st_ck S, Option.bind_some, e, bnd_some, e2]
    exact ⟨w, w2, h', rfl, Q, p, q⟩
  · obtain ⟨w, h', e, Q⟩ := c_backward M0
    obtain ⟨w2, e2, p, q⟩ := fin _ h' Q
    rw [if_neg (by decide), if_neg (by decide), if_neg (by decide), if_neg (by decide), if_neg (by decide), if_neg (by decide), if_pos (by decide), st_ck S, Option.bind_some, e, bnd_some, e2]
    exact ⟨w, w2, h', rfl, Q, p, q⟩
  · obtain ⟨w, h', e, Q⟩ := c_leap M0
    obtain ⟨w2, e2, p, q⟩ := fin _ h' Q
    rw [if_pos (by decide), st_ck S, Option.bind_some, e, bnd_some, e2]
    exact ⟨w, w2, h', rfl, Q, p, q⟩
theorem c_make {h : Hp} {m l n ns N k L sg T M xr : Nat} {t hf : UInt64} (W : WT (stR h T 1 (some L)) m l n ns N k L sg T) (xw : RW h xr 6) (xn : RN h xr 6) (x1 : ¬ PT k L T (xr + 1)) (x2 : ¬ PT k L T (xr + 2)) (hM : M ≤ 6) (nt : Nm t) (fh : HB hf) :
    ∃ w h', f_X6_make T (some L) (nI M) t (some xr) hf h = some (w, h') ∧ WT h' m l n ns N k L sg T ∧ Fr (PT k L T) (stR h T 1 (some L)) h' ∧ (w = 0 ∨ w = 1) ∧ (w = 1 ↔ Tame (fR h m l N) (hpI h (m + 2) l) n M t hf (RV h xr)) ∧ (w = 1 → SD h' T n M (fR h m l N) (hpI h (m + 2) l) t hf (RV h xr) ∧ hpD h' T 12 = FP.dconst0) := by
  have hK : hpK h T = some (6, 0) := W.2.1.1
  have ne : Nm (FP.dadd t hf) := add_nm2 nt fh.fn
  have hn := wt_n W
  generalize e1 : stR h T 1 (some L) = h1 at W ⊢
  have K1 : hpK h1 T = some (6, 0) := W.2.1.1
  have xT1 : xr + 1 ≠ T := fun e => x1 (Or.inr (by omega))
  have xT2 : xr + 2 ≠ T := fun e => x2 (Or.inr (by omega))
  have hI1 : hpI h1 = hpI h := by rw [← e1]; rfl
  have hD1 : hpD h1 = hpD h := by rw [← e1]; rfl
  generalize e8 : stD (stD (stD (stI h1 T 2 (nI M)) T 3 t) T 4 hf) T 5 (FP.dadd t hf) = h8
  have F8 : Fr (fun a => a = T) h1 h8 := by rw [← e8]; exact fr_stD (fr_stD (fr_stD (fr_stI (Fr.refl _ h1) rfl) rfl) rfl) rfl
  have D8 : hpD h8 T 3 = t ∧ hpD h8 T 4 = hf ∧ hpD h8 T 5 = FP.dadd t hf := by
    rw [← e8]
    refine ⟨?_, ?_, hpD_stD_self _ _ _ _⟩
    · rw [hpD_stD_ne (Or.inr (by omega)), hpD_stD_ne (Or.inr (by omega)), hpD_stD_self]
    · rw [hpD_stD_ne (Or.inr (by omega)), hpD_stD_self]
  have I8 : hpI h8 T 2 = nI M := by rw [← e8]; show hpI (stI h1 T 2 (nI M)) T 2 = _; exact hpI_stI_self _ _ _ _
  have xw1 : RW h1 xr 6 := by
    unfold RW at xw ⊢
    rw [← e1]
    refine ⟨xw.1, ?_, ?_, xw.2.2.2⟩
    · rw [hpR_stR, if_neg (fun e => by have h1 := xw.1; rw [e, hK] at h1; exact absurd h1 (by decide))]; exact xw.2.1
    · rw [hpR_stR, if_neg (fun e => by have h1 := xw.1; rw [e, hK] at h1; exact absurd h1 (by decide))]; exact xw.2.2.1
  have xn1 : RN h1 xr 6 := by intro i hi; rw [hI1, hD1]; exact xn i hi
  have rvx : RV h1 xr = RV h xr := by funext i; unfold RV; rw [hI1, hD1]
  have xw8 := fr_RW F8 xw1
  have xn8 := fr_RN F8 xT1 xT2 xn1
  have S8 := fr_ST F8 W.2.1
  have c8 := c_copy (st_r S8 i1) xw8 (by omega) xn8 (fun e => x1 (Or.inr (by omega))) (fun e => x2 (Or.inr (by omega)))
  generalize e16 : stI (stD (cpV h8 (T + 1) xr 6) T 12 FP.dconst0) T 13 0 = h16
  have F16 : Fr (fun a => a = T ∨ a = T + 2 ∨ a = T + 3) h1 h16 := by
    rw [← e16]
    exact fr_stI (fr_stD (fr_cpV (F8.mono (fun a e => Or.inl e)) (Or.inr (Or.inl (by omega))) (Or.inr (Or.inr (by omega)))) (Or.inl rfl)) (Or.inl rfl)
  have G16 : Fr (fun a => a = T) (cpV h8 (T + 1) xr 6) h16 := by rw [← e16]; exact fr_stI (fr_stD (Fr.refl _ _) rfl) rfl
  have F16' : Fr (PT k L T) h1 h16 := F16.mono (fun a e => Or.inr (by omega))
  have tk := W.2.2.2.1
  have tL := W.2.2.2.2.2.1
  have pL := W.1.2.2.2.2.2.2.2
  have R16 : SN h16 T := by
    intro r hr
    by_cases e : r = 1
    · rw [e]; exact fr_RN G16 (by omega) (by omega) (RN_cpV xn8)
    · have q := isr_ne i1 hr (Ne.symm e)
      have q2 := isr_le hr
      exact fr_RN F16 (by omega) (by omega) (W.2.2.1 r hr)
  have W16 : WT h16 m l n ns N k L sg T := wt_frT W F16' (rk_fr F16 (F16.2.2.2 k (by omega)).2 W.1.1) (fr_RN F16 (by omega) (by omega) W.1.2.2.2.2.2.1) R16
  have D16 : hpD h16 T 3 = t ∧ hpD h16 T 4 = hf ∧ hpD h16 T 5 = FP.dadd t hf ∧ hpD h16 T 12 = FP.dconst0 := by
    have q : ∀ j, j ≠ 12 → hpD h16 T j = hpD h8 T j := fun j hj => by
      rw [← e16]
      show hpD (stD (cpV h8 (T + 1) xr 6) T 12 FP.dconst0) T j = _
      rw [hpD_stD_ne (Or.inr hj), cpV_D (by omega)]
    refine ⟨by rw [q 3 (by omega)]; exact D8.1, by rw [q 4 (by omega)]; exact D8.2.1, by rw [q 5 (by omega)]; exact D8.2.2, ?_⟩
    rw [← e16]
    show hpD (stD (cpV h8 (T + 1) xr 6) T 12 FP.dconst0) T 12 = _
    exact hpD_stD_self _ _ _ _
  have I16 : hpI h16 T 2 = nI M ∧ hpI h16 T 13 = 0 := by
    rw [← e16]
    refine ⟨?_, hpI_stI_self _ _ _ _⟩
    rw [hpI_stI_ne (Or.inr (by omega)), hpI_stD, cpV_I (by omega)]
    exact I8
  have x16 : ∀ i, i < n → RV h16 (T + 1) i = RV h xr i := fun i hi => by
    rw [fr_RV G16 (by omega) (by omega), RV_cpV (by omega), fr_RV F8 xT1 xT2, rvx]
  have LE16 : LE h1 h16 m := fr_LE F16' (fun a h1 h2 => pt_bd W (Or.inl ⟨h1, h2⟩))
  have fR1 : fR h1 m l N = fR h m l N := by rw [← e1]; rfl
  have fR16 : fR h16 m l N = fR h m l N := by rw [le_fR LE16, fR1]
  have na16 : hpI h16 (m + 2) l = hpI h (m + 2) l := by rw [le_nar LE16, hI1]
  have DP : Dp (fR h m l N) n := by rw [← fR1]; exact dp_fR W.1.2.2.1
  obtain ⟨w, h20, e20, W20, F20, w01, w1, v20⟩ := c_slope (r := 1) (j := 0) W16 i1 (by omega) (by omega) nt
  have S16 := W16.2.1
  have fr20 : fR h20 m l N = fR h m l N := by rw [wt_fR W16 i11 F20, fR16]
  have na20 : hpI h20 (m + 2) l = hpI h (m + 2) l := by rw [wt_nar W16 i11 F20, na16]
  have x20 : ∀ i, i < n → RV h20 (T + 1) i = RV h xr i := fun i hi => by rw [wt_RV W16 i11 F20 i1 (by omega)]; exact x16 i hi
  have k20 : ∀ i, i < n → fR h16 m l N t (RV h16 (T + 1)) i = fR h m l N t (RV h xr) i := fun i hi => by rw [fR16]; exact DP _ _ _ x16 i hi
  have FT20 : Fr (PT k L T) h1 h20 := F16'.trans (F20.mono (fun a p => pd_pt i11 p))
  have start : f_X6_make T (some L) (nI M) t (some xr) hf h = (if ¬ w = 0 then ((getI h20 (some T) 6 2).bind fun x25 =>
    if x25.toInt < 0 ∨ 5 < x25.toInt then
      (ab_ck h20 (some T) (6, 0)).bind fun a30 =>
      bnd (f_X6_leap a30 h20) fun x27 h28 =>
      f_X6_make_183 (some T) x27 h28
    else if x25 = 0 then
      (getR h20 (some T) 6 8).bind fun x33 =>
      (getD h20 (some T) 6 4).bind fun x34 =>
      (ab_ck h20 (some T) (6, 0)).bind fun a38 =>
      bnd (f_X6_move a38 x33 x34 0 h20) fun _ h36 =>
      f_X6_make_183 (some T) 1 h36
    else if x25 = 1 then
      (ab_ck h20 (some T) (6, 0)).bind fun a44 =>
      bnd (f_X6_middle a44 h20) fun x41 h42 =>
      f_X6_make_183 (some T) x41 h42
    else if x25 = 2 then
      (ab_ck h20 (some T) (6, 0)).bind fun a50 =>
      bnd (f_X6_third a50 h20) fun x47 h48 =>
      f_X6_make_183 (some T) x47 h48
    else if x25 = 3 then
      (ab_ck h20 (some T) (6, 0)).bind fun a56 =>
      bnd (f_X6_fourth a56 h20) fun x53 h54 =>
      f_X6_make_183 (some T) x53 h54
    else if x25 = 4 then
      (ab_ck h20 (some T) (6, 0)).bind fun a62 =>
      bnd (f_X6_pair a62 h20) fun x59 h60 =>
      f_X6_make_183 (some T) x59 h60
    else if x25 = 5 then
      (ab_ck h20 (some T) (6, 0)).bind fun a68 =>
      bnd (f_X6_backward a68 h20) fun x65 h66 =>
      f_X6_make_183 (some T) x65 h66
    else none) else some (0, h20)) := by
    have Kf : ∀ (a b : UInt64) (i : Int32), hpK (stD (stD (stI h1 T 2 i) T 3 a) T 4 b) T = some (6, 0) := fun _ _ _ => K1
    have d3 : hpD (stD (stD (stI h1 T 2 (nI M)) T 3 t) T 4 hf) T 3 = t := by rw [hpD_stD_ne (Or.inr (by omega)), hpD_stD_self]
    have d4 : hpD (stD (stD (stI h1 T 2 (nI M)) T 3 t) T 4 hf) T 4 = hf := hpD_stD_self _ _ _ _
    unfold f_X6_make
    rw [putR_ok hK, Option.bind_some, e1, putI_ok K1, Option.bind_some, putD_ok (show hpK (stI h1 T 2 (nI M)) T = some (6, 0) from K1), Option.bind_some, putD_ok (show hpK (stD (stI h1 T 2 (nI M)) T 3 t) T = some (6, 0) from K1), Option.bind_some, getD_ok (Kf _ _ _), Option.bind_some, d3, getD_ok (Kf _ _ _), Option.bind_some, d4, fop_ok ne, Option.bind_some, putD_ok (Kf _ _ _), Option.bind_some, e8, st_g6 S8, Option.bind_some, rw_ck (st_r S8 i1), Option.bind_some, c8, bnd_some, putD_ok (show hpK (cpV h8 (T + 1) xr 6) T = some (6, 0) from S8.1), Option.bind_some, putI_ok (show hpK (stD (cpV h8 (T + 1) xr 6) T 12 FP.dconst0) T = some (6, 0) from S8.1), Option.bind_some, e16, st_gd S16, Option.bind_some, D16.1, st_g6 S16, Option.bind_some, st_ck S16, Option.bind_some, show f_X6_slope T 0 t (some (T + 1)) h16 = some (w, h20) from e20, bnd_some, if_pos (show 0 = 0 ∨ 0 = 1 by decide)]
  rw [start]
  by_cases z : w = 0
  · rw [if_neg (fun q => q z)]
    refine ⟨0, h20, rfl, W20, FT20, Or.inl rfl, ⟨fun q => absurd q (by decide), fun q => ?_⟩, fun q => absurd q (by decide)⟩
    have : w = 1 := w1.mpr (fun i hi => by
      rw [k20 i hi]
      have := q.1 0 (by have := sgN_le M; omega) i hi
      rw [kS_0] at this; exact this)
    rw [z] at this; exact absurd this (by decide)
  · have f1 := w1.mp (w_ne w01 z)
    rw [if_pos z]
    have D20 : hpD h20 T = hpD h16 T := wt_TD W16 i11 F20
    have I20 : hpI h20 T = hpI h16 T := wt_TI W16 i11 F20
    have q20 : ∀ i, i < n → fR h m l N t (RV h20 (T + 1)) i = fR h m l N t (RV h xr) i := fun i hi => DP _ _ _ x20 i hi
    have M0 : MS h20 m l n ns N k L sg T t hf := ⟨W20, by rw [D20]; exact D16.1, by rw [D20]; exact D16.2.1, by rw [I20]; exact I16.2, nt, fh, fun i hi => by
      rw [fr20, q20 i hi, ← k20 i hi]; exact v20 i hi, fun i hi => by rw [fr20, q20 i hi, ← k20 i hi]; exact f1 i hi⟩
    obtain ⟨w', w2, h', e', Q, p2, q2⟩ := c_make_m M0 hM (by rw [I20]; exact I16.1) (by rw [D20]; exact D16.2.2.1)
    rw [fr20, na20] at q2
    obtain ⟨Q1, Q2, Q3, Q4, Q5, Q6, Q7⟩ := Q
    rw [fr20, na20] at Q6 Q7
    have TM : w2 = 1 ↔ Tame (fR h m l N) (hpI h (m + 2) l) n M t hf (RV h20 (T + 1)) := by
      rw [q2, Q6]
      unfold Tame
      exact ⟨fun z => ⟨z.1.1, z.1.2.1, z.1.2.2, z.2.1, z.2.2⟩, fun z => ⟨⟨z.1, z.2.1, z.2.2.1⟩, z.2.2.2.1, z.2.2.2.2⟩⟩
    refine ⟨w2, h', e', Q1, FT20.trans (Q2.mono (fun a p => pm_pt p)), p2, TM.trans ⟨fun z => tame_c DP x20 z, fun z => tame_c DP (fun i hi => (x20 i hi).symm) z⟩, fun z2 => ?_⟩
    obtain ⟨r1, r2, r3, r4⟩ := Q7 (q2.mp z2).1
    have xx : ∀ i, i < n → RV h' (T + 1) i = RV h xr i := fun i hi => by
      rw [fr_RV Q2 (pm_row W20 (Or.inl rfl)).1 (pm_row W20 (Or.inl rfl)).2]; exact x20 i hi
    refine ⟨⟨by rw [Q4, I20]; exact I16.1, by rw [Q3, D20]; exact D16.1, by rw [Q3, D20]; exact D16.2.1, by rw [Q3, D20]; exact D16.2.2.1, by rw [r4, gS_c DP x20], xx, fun i hi => by rw [r2 i hi]; exact zS_c DP x20 i hi, fun j hj i hi => by rw [r1 j hj i hi]; exact kS_c DP x20 i hi, fun e4 i hi => by rw [r3 e4 i hi]; exact eP_c DP x20 i hi⟩, by rw [Q3, D20]; exact D16.2.2.2⟩
