/-! ===== made: a step of any method ===== -/
def kS (F : FT) (nar : Int32) (n M : Nat) (t h : UInt64) (x : Nat → UInt64) (j : Nat) : Nat → UInt64 := match M, j with
  | _, 0 => F t x
  | 1, _ => kA F nar t h x
  | 2, 1 => kA F nar t h x
  | 2, _ => k3T F nar t h x
  | 3, 1 => kA F nar t h x
  | 3, 2 => k3F F nar t h x
  | 3, _ => k4F F nar t h x
  | 4, 1 => kA F nar t h x
  | 4, 2 => k3P F nar t h x
  | 4, _ => k4P F nar t h x
  | 5, _ => F (FP.dadd t h) (zB F nar t h x 5)
  | 6, 1 => k2L F nar n t h x
  | 6, _ => k3L F nar n t h x
  | _, _ => F t x
def zS (F : FT) (nar : Int32) (n M : Nat) (t h : UInt64) (x : Nat → UInt64) : Nat → UInt64 := match M with
  | 0 => mvV nar x h (F t x)
  | 1 => zM F nar t h x
  | 2 => zT F nar t h x
  | 3 => zF F nar t h x
  | 4 => zP F nar t h x
  | 5 => zB F nar t h x 6
  | _ => zL F nar n t h x
def gS (F : FT) (nar : Int32) (n M : Nat) (t h : UInt64) (x : Nat → UInt64) : Nat := if M = 5 then gpS (zB F nar t h x 6) (zB F nar t h x 5) n else 0
def sgN (M : Nat) : Nat := match M with
  | 0 => 1
  | 1 => 2
  | 2 => 3
  | 3 => 4
  | 4 => 4
  | 5 => 2
  | _ => 3
/-- the step is not wild -/
def Tame (F : FT) (nar : Int32) (n M : Nat) (t h : UInt64) (x : Nat → UInt64) : Prop :=
  (∀ j, j < sgN M → ∀ i, i < n → Fn (kS F nar n M t h x j i)) ∧ (M = 5 → ∀ j, j < 6 → ∀ i, i < n → Fn (F (FP.dadd t h) (zB F nar t h x j) i)) ∧ (M = 4 → ∀ i, i < n → Fn (eP F nar t h x i)) ∧ (∀ i, i < n → Fn (zS F nar n M t h x i)) ∧ Fn (FP.dadd t h)
theorem wB_0 {F : FT} {nar : Int32} {t h : UInt64} {x : Nat → UInt64} {n : Nat} {w : Int32} {j : Nat} : wB F nar t h x n w j = 0 ↔ w = 0 ∧ ∀ q, q < j → ∀ i, i < n → Fn (F (FP.dadd t h) (zB F nar t h x q) i) := by
  induction j with
  | zero => simp [wB]
  | succ j ih =>
    rw [wB, wlS_0, ih]
    constructor
    · rintro ⟨⟨a, b⟩, c⟩
      refine ⟨a, fun q hq i hi => ?_⟩
      by_cases e : q = j
      · subst e; exact c i hi
      · exact b q (by omega) i hi
    · rintro ⟨a, b⟩
      exact ⟨⟨a, fun q hq => b q (by omega)⟩, b j (by omega)⟩
theorem wB_01 {F : FT} {nar : Int32} {t h : UInt64} {x : Nat → UInt64} {n : Nat} {w : Int32} (hw : w = 0 ∨ w = 1) (j : Nat) : wB F nar t h x n w j = 0 ∨ wB F nar t h x n w j = 1 := by
  induction j with
  | zero => exact hw
  | succ j ih => exact wlS_01 ih n
theorem r_made_151 {h : Hp} {m n : Nat} {t hh : UInt64} (H : RO h m) (hn : n ≤ 6) (nt : Nm (FP.dadd t hh)) (hw : hpI h m 60 = 0 ∨ hpI h m 60 = 1) :
    ∃ w, f_X9_made_151 fuelN (some m) t hh (nI n) 0 h = some (w, stI h m 60 (wlS (hpD h (m + 47)) n (hpI h m 60))) ∧ (w = 0 ∨ w = 1) ∧ (w = 0 ↔ wlS (hpD h (m + 47)) n (hpI h m 60) = 0 ∧ Fn (FP.dadd t hh)) := by
  refine ⟨if wlS (hpD h (m + 47)) n (hpI h m 60) = 0 ∧ (ky (FP.dadd t hh)).natAbs < 9218868437227405312 then 0 else 1, ?_, ?_, ?_⟩
  · generalize hE : hpD h (m + 47) = E
    have := loop_from (fun fuel i hh' => f_X9_made_151 fuel (some m) t hh (nI n) i hh') (fun i => stI h m 60 (wlS E i (hpI h m 60))) (n := n) (a := 0) (res := some (if wlS E n (hpI h m 60) = 0 ∧ (ky (FP.dadd t hh)).natAbs < 9218868437227405312 then 0 else 1, stI h m 60 (wlS E n (hpI h m 60)))) (by omega) (by omega) ?_ ?_
    · have e0 : stI h m 60 (wlS E 0 (hpI h m 60)) = h := by rw [wlS, stI_self]
      rw [e0] at this
      exact this
    · intro fuel i _ hi
      generalize hw0 : hpI h m 60 = w0 at hw ⊢
      have H2 : RO (stI h m 60 (wlS E i w0)) m := H
      simp only [f_X9_made_151, if_neg (show ¬ nI n ≤ nI i by rw [ni_le (by omega) (by omega)]; omega), ro_gi H2, Option.bind_some, hpI_stI_self, ro_g49 H2, ro_a49 H2 (show i < 6 by omega), hpD_stI, hE]
      rcases wlS_01 (f := E) hw i with z | z
      · by_cases fi : Fn (E i)
        · have e2 : wlS E (i + 1) w0 = 0 := by rw [wlS, if_pos ⟨z, fi⟩]
          rw [if_neg (by rw [z]; simp), r_isFin1 fi, bnd_some, if_pos (by decide), f_X9_made_184, ro_pz H2 (Or.inl rfl), Option.bind_some, stI_stI, e2, li1, ni_add]
        · have e2 : wlS E (i + 1) w0 = 1 := by rw [wlS, if_neg (fun q => fi q.2)]
          rw [if_neg (by rw [z]; simp), r_isFin0 fi, bnd_some, if_neg (by simp), f_X9_made_179, f_X9_made_184, ro_pz H2 (Or.inr rfl), Option.bind_some, stI_stI, e2, li1, ni_add]
      · have e2 : wlS E (i + 1) w0 = 1 := by rw [wlS, if_neg (fun q => by rw [z] at q; exact absurd q.1 (by decide))]
        rw [if_pos (by rw [z]; decide), f_X9_made_179, f_X9_made_184, ro_pz H2 (Or.inr rfl), Option.bind_some, stI_stI, e2, li1, ni_add]
    · intro fuel
      have H2 : RO (stI h m 60 (wlS E n (hpI h m 60))) m := H
      simp only [f_X9_made_151, if_pos (show nI n ≤ nI n from (ni_le (by omega) (by omega)).mpr (Nat.le_refl _)), ro_gi H2, Option.bind_some, hpI_stI_self, fop_ok nt]
      by_cases z : wlS E n (hpI h m 60) = 0
      · by_cases fi : Fn (FP.dadd t hh)
        · have fi' : (ky (FP.dadd t hh)).natAbs < 9218868437227405312 := fi
          rw [if_neg (by rw [z]; simp), r_isFin1 fi, bnd_some, if_pos (by decide), f_X9_made_215, if_pos (by simp), if_pos ⟨z, fi'⟩]
        · have fi' : ¬ (ky (FP.dadd t hh)).natAbs < 9218868437227405312 := fi
          rw [if_neg (by rw [z]; simp), r_isFin0 fi, bnd_some, if_neg (by simp), f_X9_made_210, f_X9_made_215, if_pos (by simp), if_neg (fun q => fi' q.2)]
      · rw [if_pos z, f_X9_made_210, f_X9_made_215, if_pos (by simp), if_neg (fun q => z q.1)]
  · split <;> simp
  · constructor
    · intro q
      split at q
      · rename_i z; exact z
      · exact absurd q (by decide)
    · intro q
      rw [if_pos (show _ ∧ (ky (FP.dadd t hh)).natAbs < 9218868437227405312 from q)]
theorem scr_wlS {E E' : Nat → UInt64} {n : Nat} {w : Int32} (h : ∀ i, i < n → E i = E' i) : wlS E n w = 0 ↔ w = 0 ∧ ∀ i, i < n → Fn (E' i) := by rw [wlS_congr h, wlS_0]
theorem r_made {h : Hp} {m l n ns N M : Nat} {t hh : UInt64} (X : SX h m l n ns N) (hM : M ≤ 6) (ft : Nm t) (fh : HB hh) (hx : ∀ i, i < n → Cv (hpD h (m + 45) i)) :
    ∃ w h', f_X9_made m (nI l) (nI M) t hh h = some (w, h') ∧ Scr h h' m ∧ (w = 0 ∨ w = 1) ∧ (w = 0 ↔ Tame (fR h m l N) (hpI h (m + 2) l) n M t hh (hpD h (m + 45))) ∧ (∀ j, j < sgN M → ∀ i, i < n → hpD h' (m + 50 + j) i = kS (fR h m l N) (hpI h (m + 2) l) n M t hh (hpD h (m + 45)) j i) ∧ (∀ i, i < n → hpD h' (m + 47) i = zS (fR h m l N) (hpI h (m + 2) l) n M t hh (hpD h (m + 45)) i) ∧ (M = 4 → ∀ i, i < n → hpD h' (m + 49) i = eP (fR h m l N) (hpI h (m + 2) l) t hh (hpD h (m + 45)) i) ∧ hpI h' m 61 = nI (gS (fR h m l N) (hpI h (m + 2) l) n M t hh (hpD h (m + 45))) ∧ (hpI h' m 60 = 0 ∨ hpI h' m 60 = 1) := by
  have hl := X.2.1.1
  have hn := X.2.1.2.2.2.1
  have e1 := X.2.1.2.2.2.2.1
  have H := X.1
  have nt := add_nm2 ft fh.fn
  unfold f_X9_made f_X9_made_148
  rw [ro_g0 H, Option.bind_some, ro_a0 H hl, Option.bind_some, e1, ro_pz H (Or.inl rfl), Option.bind_some]
  have H1 : RO (stI h m 60 0) m := H
  rw [ro_pi H1, Option.bind_some]
  have H2 : RO (stI (stI h m 60 0) m 61 0) m := H
  rw [ro_g47 H2, Option.bind_some, ro_g52 H2, Option.bind_some, ro_ck H2, Option.bind_some]
  have S2 : Scr h (stI (stI h m 60 0) m 61 0) m := ((Scr.refl h m).stI 60 0 (Or.inl rfl)).stI 61 0 (Or.inr rfl)
  have w2 : hpI (stI (stI h m 60 0) m 61 0) m 60 = 0 := by rw [hpI_stI, if_pos rfl, if_neg (by decide), hpI_stI_self]
  have u2 : hpI (stI (stI h m 60 0) m 61 0) m 61 = 0 := hpI_stI_self _ _ _ _
  have x2 : hpD (stI (stI h m 60 0) m 61 0) (m + 45) = hpD h (m + 45) := rfl
  generalize eh2 : stI (stI h m 60 0) m 61 0 = h2 at S2 w2 u2 x2 H2 ⊢
  obtain ⟨h3, e3, S3, k3, o3, v3, b3, u3⟩ := st_rates (t := t) (y := hpD h (m + 45)) (st := m + 45) (out := m + 50) X S2 (by omega) (by omega) ft (fun j _ => by rw [x2]) hx (Or.inl w2)
  rw [e3, bnd_some]
  rw [w2] at v3
  rw [u2] at u3
  have X3 := scr_SX S3 X
  have x3 : hpD h3 (m + 45) = hpD h (m + 45) := S3.2.2.2.2.2 (m + 45) (by omega)
  have n3 : hpI h3 (m + 2) l = hpI h (m + 2) l := by rw [S3.2.2.2.1 (m + 2) (by omega)]
  have f3 : fR h3 m l N = fR h m l N := by funext a b; exact scr_fR S3 a b
  have k3' : ∀ i, i < n → hpD h3 (m + 50) i = fR h3 m l N t (hpD h3 (m + 45)) i := fun i hi => by rw [f3, x3]; exact k3 i hi
  have H3 := X3.1
  simp only [ro_ck H3, Option.bind_some]
  have eqM : ∀ k : Nat, k < 100 → (nI M = nI k ↔ M = k) := fun k hk => ni_eq (by omega) (by omega)
  simp only [li0, li1, li2, li3, li4, li5, eqM 0 (by omega), eqM 1 (by omega), eqM 2 (by omega), eqM 3 (by omega), eqM 4 (by omega), eqM 5 (by omega)]
  rcases (by omega : M = 0 ∨ M = 1 ∨ M = 2 ∨ M = 3 ∨ M = 4 ∨ M = 5 ∨ M = 6) with rfl | rfl | rfl | rfl | rfl | rfl | rfl
  · simp only [not_true_eq_false, if_false]
    rw [r_plain H3 hl hn, bnd_some]
    obtain ⟨S4, y4⟩ := st_row (h0 := h) (l := l) (n := n) (dst := m + 47) (w := hh) S3 (by omega) k3 (hpD h3 (m + 47))
    have d4 : hpD (rwD h3 (m + 47) (rowU n (mvV (hpI h3 (m + 2) l) (hpD h3 (m + 45)) hh (hpD h3 (m + 50))) (hpD h3 (m + 47)))) (m + 50) = hpD h3 (m + 50) := by rw [hpD_rwD_ne (by omega)]
    have w4 : hpI (rwD h3 (m + 47) (rowU n (mvV (hpI h3 (m + 2) l) (hpD h3 (m + 45)) hh (hpD h3 (m + 50))) (hpD h3 (m + 47)))) m = hpI h3 m := rfl
    generalize e4 : rwD h3 (m + 47) _ = h4 at S4 y4 d4 w4 ⊢
    obtain ⟨w, ew, cw, iw⟩ := r_made_151 (t := t) (hh := hh) (scr_RO S4 H) hn nt (by rw [w4]; exact b3)
    refine ⟨w, _, ew, S4.stI 60 _ (Or.inl rfl), cw, ?_, ?_, ?_, ?_, ?_, by rw [← li0, ← li1, hpI_stI_self]; exact wlS_01 (by rw [w4]; exact b3) n⟩
    · rw [← li0, iw, w4, v3, scr_wlS y4, wlS_0]
      constructor
      · rintro ⟨⟨⟨-, a⟩, b⟩, c⟩
        exact ⟨fun j hj i hi => by have : j = 0 := by simp [sgN] at hj; omega
                                   subst this; exact a i hi, fun q => by omega, fun q => by omega, b, c⟩
      · rintro ⟨a, -, -, b, c⟩
        exact ⟨⟨⟨rfl, fun i hi => a 0 (by simp [sgN]) i hi⟩, b⟩, c⟩
    · intro j hj i hi
      have : j = 0 := by simp [sgN] at hj; omega
      subst this
      rw [hpD_stI]; show hpD h4 (m + 50) i = _; rw [d4]; exact k3 i hi
    · intro i hi; rw [hpD_stI]; exact y4 i hi
    · intro q; exact absurd q (by decide)
    · rw [hpI_stI, if_pos rfl, if_neg (by decide), w4, u3, gS, if_neg (by decide)]; rfl
  · simp only [not_true_eq_false, if_false, if_true, show ¬ (1 : Nat) = 0 by decide, not_false_eq_true]
    obtain ⟨h4, e4, S4, d4, a4, y4, v4, u4⟩ := r_byMiddle X3 ft fh k3' b3
    rw [e4, bnd_some]
    rw [f3, n3, x3] at a4 y4 v4
    have S5 := S3.trans S4
    have b4 : hpI h4 m 60 = 0 ∨ hpI h4 m 60 = 1 := by rw [v4]; exact wlS_01 b3 n
    obtain ⟨w, ew, cw, iw⟩ := r_made_151 (t := t) (hh := hh) (scr_RO S5 H) hn nt b4
    refine ⟨w, _, ew, S5.stI 60 _ (Or.inl rfl), cw, ?_, ?_, ?_, ?_, ?_, by rw [← li0, ← li1, hpI_stI_self]; exact wlS_01 b4 n⟩
    · rw [← li0, iw, scr_wlS y4, v4, wlS_0, v3, wlS_0]
      constructor
      · rintro ⟨⟨⟨⟨-, a⟩, a2⟩, b⟩, c⟩
        refine ⟨fun j hj i hi => ?_, fun q => by omega, fun q => by omega, b, c⟩
        simp [sgN] at hj
        rcases (by omega : j = 0 ∨ j = 1) with rfl | rfl
        · exact a i hi
        · exact a2 i hi
      · rintro ⟨a, -, -, b, c⟩
        exact ⟨⟨⟨⟨rfl, fun i hi => a 0 (by simp [sgN]) i hi⟩, fun i hi => a 1 (by simp [sgN]) i hi⟩, b⟩, c⟩
    · intro j hj i hi
      simp [sgN] at hj
      rw [hpD_stI]
      rcases (by omega : j = 0 ∨ j = 1) with rfl | rfl
      · show hpD h4 (m + 50) i = _; rw [d4]; exact k3 i hi
      · exact a4 i hi
    · intro i hi; rw [hpD_stI]; exact y4 i hi
    · intro q; exact absurd q (by decide)
    · rw [hpI_stI, if_pos rfl, if_neg (by decide), u4, u3, gS, if_neg (by decide)]; rfl
  · simp only [not_true_eq_false, if_false, if_true, show ¬ (2 : Nat) = 0 by decide, show ¬ (2 : Nat) = 1 by decide, not_false_eq_true]
    obtain ⟨h4, e4, S4, d4, a4, a5, y4, v4, u4⟩ := r_third X3 ft fh k3' b3
    rw [e4, bnd_some]
    rw [f3, n3, x3] at a4 a5 y4 v4
    have S5 := S3.trans S4
    have b4 : hpI h4 m 60 = 0 ∨ hpI h4 m 60 = 1 := by rw [v4]; exact wlS_01 (wlS_01 b3 n) n
    obtain ⟨w, ew, cw, iw⟩ := r_made_151 (t := t) (hh := hh) (scr_RO S5 H) hn nt b4
    refine ⟨w, _, ew, S5.stI 60 _ (Or.inl rfl), cw, ?_, ?_, ?_, ?_, ?_, by rw [← li0, ← li1, hpI_stI_self]; exact wlS_01 b4 n⟩
    · rw [← li0, iw, scr_wlS y4, v4, wlS_0, wlS_0, v3, wlS_0]
      constructor
      · rintro ⟨⟨⟨⟨⟨-, a⟩, a2⟩, a3⟩, b⟩, c⟩
        refine ⟨fun j hj i hi => ?_, fun q => by omega, fun q => by omega, b, c⟩
        simp [sgN] at hj
        rcases (by omega : j = 0 ∨ j = 1 ∨ j = 2) with rfl | rfl | rfl
        · exact a i hi
        · exact a2 i hi
        · exact a3 i hi
      · rintro ⟨a, -, -, b, c⟩
        exact ⟨⟨⟨⟨⟨rfl, fun i hi => a 0 (by simp [sgN]) i hi⟩, fun i hi => a 1 (by simp [sgN]) i hi⟩, fun i hi => a 2 (by simp [sgN]) i hi⟩, b⟩, c⟩
    · intro j hj i hi
      simp [sgN] at hj
      rw [hpD_stI]
      rcases (by omega : j = 0 ∨ j = 1 ∨ j = 2) with rfl | rfl | rfl
      · show hpD h4 (m + 50) i = _; rw [d4]; exact k3 i hi
      · exact a4 i hi
      · exact a5 i hi
    · intro i hi; rw [hpD_stI]; exact y4 i hi
    · intro q; exact absurd q (by decide)
    · rw [hpI_stI, if_pos rfl, if_neg (by decide), u4, u3, gS, if_neg (by decide)]; rfl
  · simp only [not_true_eq_false, if_false, if_true, show ¬ (3 : Nat) = 0 by decide, show ¬ (3 : Nat) = 1 by decide, show ¬ (3 : Nat) = 2 by decide, not_false_eq_true]
    obtain ⟨h4, e4, S4, d4, a4, a5, a6, y4, v4, u4⟩ := r_fourth X3 ft fh k3' b3
    rw [e4, bnd_some]
    rw [f3, n3, x3] at a4 a5 a6 y4 v4
    have S5 := S3.trans S4
    have b4 : hpI h4 m 60 = 0 ∨ hpI h4 m 60 = 1 := by rw [v4]; exact wlS_01 (wlS_01 (wlS_01 b3 n) n) n
    obtain ⟨w, ew, cw, iw⟩ := r_made_151 (t := t) (hh := hh) (scr_RO S5 H) hn nt b4
    refine ⟨w, _, ew, S5.stI 60 _ (Or.inl rfl), cw, ?_, ?_, ?_, ?_, ?_, by rw [← li0, ← li1, hpI_stI_self]; exact wlS_01 b4 n⟩
    · rw [← li0, iw, scr_wlS y4, v4, wlS_0, wlS_0, wlS_0, v3, wlS_0]
      constructor
      · rintro ⟨⟨⟨⟨⟨⟨-, a⟩, a2⟩, a3⟩, a4⟩, b⟩, c⟩
        refine ⟨fun j hj i hi => ?_, fun q => by omega, fun q => by omega, b, c⟩
        simp [sgN] at hj
        rcases (by omega : j = 0 ∨ j = 1 ∨ j = 2 ∨ j = 3) with rfl | rfl | rfl | rfl
        · exact a i hi
        · exact a2 i hi
        · exact a3 i hi
        · exact a4 i hi
      · rintro ⟨a, -, -, b, c⟩
        exact ⟨⟨⟨⟨⟨⟨rfl, fun i hi => a 0 (by simp [sgN]) i hi⟩, fun i hi => a 1 (by simp [sgN]) i hi⟩, fun i hi => a 2 (by simp [sgN]) i hi⟩, fun i hi => a 3 (by simp [sgN]) i hi⟩, b⟩, c⟩
    · intro j hj i hi
      simp [sgN] at hj
      rw [hpD_stI]
      rcases (by omega : j = 0 ∨ j = 1 ∨ j = 2 ∨ j = 3) with rfl | rfl | rfl | rfl
      · show hpD h4 (m + 50) i = _; rw [d4]; exact k3 i hi
      · exact a4 i hi
      · exact a5 i hi
      · exact a6 i hi
    · intro i hi; rw [hpD_stI]; exact y4 i hi
    · intro q; exact absurd q (by decide)
    · rw [hpI_stI, if_pos rfl, if_neg (by decide), u4, u3, gS, if_neg (by decide)]; rfl
  · simp only [not_true_eq_false, if_false, if_true, show ¬ (4 : Nat) = 0 by decide, show ¬ (4 : Nat) = 1 by decide, show ¬ (4 : Nat) = 2 by decide, show ¬ (4 : Nat) = 3 by decide, not_false_eq_true]
    obtain ⟨h4, e4, S4, d4, a4, a5, a6, y4, z4, v4, u4⟩ := r_pair X3 ft fh k3' b3
    rw [e4, bnd_some]
    rw [f3, n3, x3] at a4 a5 a6 y4 z4 v4
    have S5 := S3.trans S4
    have b4 : hpI h4 m 60 = 0 ∨ hpI h4 m 60 = 1 := by rw [v4]; exact wlS_01 (wlS_01 (wlS_01 (wlS_01 b3 n) n) n) n
    obtain ⟨w, ew, cw, iw⟩ := r_made_151 (t := t) (hh := hh) (scr_RO S5 H) hn nt b4
    refine ⟨w, _, ew, S5.stI 60 _ (Or.inl rfl), cw, ?_, ?_, ?_, ?_, ?_, by rw [← li0, ← li1, hpI_stI_self]; exact wlS_01 b4 n⟩
    · rw [← li0, iw, scr_wlS y4, v4, wlS_0, wlS_0, wlS_0, wlS_0, v3, wlS_0]
      constructor
      · rintro ⟨⟨⟨⟨⟨⟨⟨-, a⟩, a2⟩, a3⟩, a4⟩, a5⟩, b⟩, c⟩
        refine ⟨fun j hj i hi => ?_, fun q => by omega, fun q => a5, b, c⟩
        simp [sgN] at hj
        rcases (by omega : j = 0 ∨ j = 1 ∨ j = 2 ∨ j = 3) with rfl | rfl | rfl | rfl
        · exact a i hi
        · exact a2 i hi
        · exact a3 i hi
        · exact a4 i hi
      · rintro ⟨a, -, a5, b, c⟩
        exact ⟨⟨⟨⟨⟨⟨⟨rfl, fun i hi => a 0 (by simp [sgN]) i hi⟩, fun i hi => a 1 (by simp [sgN]) i hi⟩, fun i hi => a 2 (by simp [sgN]) i hi⟩, fun i hi => a 3 (by simp [sgN]) i hi⟩, a5 rfl⟩, b⟩, c⟩
    · intro j hj i hi
      simp [sgN] at hj
      rw [hpD_stI]
      rcases (by omega : j = 0 ∨ j = 1 ∨ j = 2 ∨ j = 3) with rfl | rfl | rfl | rfl
      · show hpD h4 (m + 50) i = _; rw [d4]; exact k3 i hi
      · exact a4 i hi
      · exact a5 i hi
      · exact a6 i hi
    · intro i hi; rw [hpD_stI]; exact y4 i hi
    · intro q i hi; rw [hpD_stI]; exact z4 i hi
    · rw [hpI_stI, if_pos rfl, if_neg (by decide), u4, u3, gS, if_neg (by decide)]; rfl
  · simp only [not_true_eq_false, if_false, if_true, show ¬ (5 : Nat) = 0 by decide, show ¬ (5 : Nat) = 1 by decide, show ¬ (5 : Nat) = 2 by decide, show ¬ (5 : Nat) = 3 by decide, show ¬ (5 : Nat) = 4 by decide, not_false_eq_true]
    obtain ⟨h4, e4, S4, d4, a4, y4, v4, u4⟩ := r_backward X3 ft fh k3' b3
    rw [e4, bnd_some]
    rw [f3, n3, x3] at a4 y4 v4 u4
    have S5 := S3.trans S4
    have b4 : hpI h4 m 60 = 0 ∨ hpI h4 m 60 = 1 := by rw [v4]; exact wB_01 b3 6
    obtain ⟨w, ew, cw, iw⟩ := r_made_151 (t := t) (hh := hh) (scr_RO S5 H) hn nt b4
    refine ⟨w, _, ew, S5.stI 60 _ (Or.inl rfl), cw, ?_, ?_, ?_, ?_, ?_, by rw [← li0, ← li1, hpI_stI_self]; exact wlS_01 b4 n⟩
    · rw [← li0, iw, scr_wlS y4, v4, wB_0, v3, wlS_0]
      constructor
      · rintro ⟨⟨⟨⟨-, a⟩, a2⟩, b⟩, c⟩
        refine ⟨fun j hj i hi => ?_, fun _ => a2, fun q => by omega, b, c⟩
        simp [sgN] at hj
        rcases (by omega : j = 0 ∨ j = 1) with rfl | rfl
        · exact a i hi
        · exact a2 5 (by omega) i hi
      · rintro ⟨a, a2, -, b, c⟩
        exact ⟨⟨⟨⟨rfl, fun i hi => a 0 (by simp [sgN]) i hi⟩, a2 rfl⟩, b⟩, c⟩
    · intro j hj i hi
      simp [sgN] at hj
      rw [hpD_stI]
      rcases (by omega : j = 0 ∨ j = 1) with rfl | rfl
      · show hpD h4 (m + 50) i = _; rw [d4]; exact k3 i hi
      · exact a4 i hi
    · intro i hi; rw [hpD_stI]; exact y4 i hi
    · intro q; exact absurd q (by decide)
    · rw [hpI_stI, if_pos rfl, if_neg (by decide), u4, gS, if_pos rfl]
  · simp only [not_true_eq_false, if_false, if_true, show ¬ (6 : Nat) = 0 by decide, show ¬ (6 : Nat) = 1 by decide, show ¬ (6 : Nat) = 2 by decide, show ¬ (6 : Nat) = 3 by decide, show ¬ (6 : Nat) = 4 by decide, show ¬ (6 : Nat) = 5 by decide, not_false_eq_true]
    obtain ⟨h4, e4, S4, d4, a4, a5, y4, v4, u4⟩ := r_leap X3 ft fh (fun i hi => by rw [x3]; exact hx i hi) k3' b3
    rw [e4, bnd_some]
    rw [f3, n3, x3] at a4 a5 y4 v4
    have S5 := S3.trans S4
    have b4 : hpI h4 m 60 = 0 ∨ hpI h4 m 60 = 1 := by rw [v4]; exact wlS_01 (wlS_01 b3 n) n
    obtain ⟨w, ew, cw, iw⟩ := r_made_151 (t := t) (hh := hh) (scr_RO S5 H) hn nt b4
    refine ⟨w, _, ew, S5.stI 60 _ (Or.inl rfl), cw, ?_, ?_, ?_, ?_, ?_, by rw [← li0, ← li1, hpI_stI_self]; exact wlS_01 b4 n⟩
    · rw [← li0, iw, scr_wlS y4, v4, wlS_0, wlS_0, v3, wlS_0]
      constructor
      · rintro ⟨⟨⟨⟨⟨-, a⟩, a2⟩, a3⟩, b⟩, c⟩
        refine ⟨fun j hj i hi => ?_, fun q => by omega, fun q => by omega, b, c⟩
        simp [sgN] at hj
        rcases (by omega : j = 0 ∨ j = 1 ∨ j = 2) with rfl | rfl | rfl
        · exact a i hi
        · exact a2 i hi
        · exact a3 i hi
      · rintro ⟨a, -, -, b, c⟩
        exact ⟨⟨⟨⟨⟨rfl, fun i hi => a 0 (by simp [sgN]) i hi⟩, fun i hi => a 1 (by simp [sgN]) i hi⟩, fun i hi => a 2 (by simp [sgN]) i hi⟩, b⟩, c⟩
    · intro j hj i hi
      simp [sgN] at hj
      rw [hpD_stI]
      rcases (by omega : j = 0 ∨ j = 1 ∨ j = 2) with rfl | rfl | rfl
      · show hpD h4 (m + 50) i = _; rw [d4]; exact k3 i hi
      · exact a4 i hi
      · exact a5 i hi
    · intro i hi; rw [hpD_stI]; exact y4 i hi
    · intro q; exact absurd q (by decide)
    · rw [hpI_stI, if_pos rfl, if_neg (by decide), u4, u3, gS, if_neg (by decide)]; rfl
