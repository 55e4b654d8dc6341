/-! ===== a run's object of the class ===== -/
def RB (h : Hp) (r k : Nat) : Prop := hpK h r = some (4, 0) ∧ hpR h r 2 = some (r + 1) ∧ hpR h r 10 = some (r + 4) ∧ hpR h r 11 = some (r + 12) ∧ RW h (r + 1) 6 ∧ hpK h (r + 4) = some (0, 0) ∧ (∀ j, 1 ≤ j → j ≤ 5 → hpR h (r + 4) j = some (r + 4 + j)) ∧ hpR h (r + 4) 7 = some (r + 10) ∧ hpR h (r + 4) 8 = some (r + 11) ∧ (∀ j, 5 ≤ j → j ≤ 8 → hpK h (r + j) = some (11, 4)) ∧ hpK h (r + 9) = some (10, 4) ∧ hpK h (r + 10) = some (11, 64) ∧ hpK h (r + 11) = some (10, 64) ∧ S0 h (r + 12) k
theorem fr_RB {P : Nat → Prop} {h0 h : Hp} {r k : Nat} (F : Fr P h0 h) (B : RB h0 r k) : RB h r k := by
  unfold RB S0 RW; rw [F.2.1, F.2.2.1]; exact B
theorem rb_ck {h : Hp} {r k : Nat} (B : RB h r k) : ab_ck h (some r) (4, 0) = some r := ck_ok B.1
theorem rb_g0 {h : Hp} {r k : Nat} (B : RB h r k) : getR h (some r) 4 0 = some (hpR h r 0) := getR_ok B.1
theorem rb_g2 {h : Hp} {r k : Nat} (B : RB h r k) : getR h (some r) 4 2 = some (some (r + 1)) := by rw [getR_ok B.1, B.2.1]
theorem rb_g10 {h : Hp} {r k : Nat} (B : RB h r k) : getR h (some r) 4 10 = some (some (r + 4)) := by rw [getR_ok B.1, B.2.2.1]
theorem rb_g11 {h : Hp} {r k : Nat} (B : RB h r k) : getR h (some r) 4 11 = some (some (r + 12)) := by rw [getR_ok B.1, B.2.2.2.1]
theorem rb_gi {h : Hp} {r k j : Nat} (B : RB h r k) : getI h (some r) 4 j = some (hpI h r j) := getI_ok B.1
theorem rb_gd {h : Hp} {r k j : Nat} (B : RB h r k) : getD h (some r) 4 j = some (hpD h r j) := getD_ok B.1
theorem rb_rw {h : Hp} {r k : Nat} (B : RB h r k) : RW h (r + 1) 6 := B.2.2.2.2.1
theorem rb_eK {h : Hp} {r k : Nat} (B : RB h r k) : hpK h (r + 4) = some (0, 0) := B.2.2.2.2.2.1
theorem rb_ec {h : Hp} {r k : Nat} (B : RB h r k) : ab_ck h (some (r + 4)) (0, 0) = some (r + 4) := ck_ok (rb_eK B)
theorem rb_ei {h : Hp} {r k j : Nat} (B : RB h r k) : getI h (some (r + 4)) 0 j = some (hpI h (r + 4) j) := getI_ok (rb_eK B)
theorem rb_e1 {h : Hp} {r k : Nat} (B : RB h r k) : getR h (some (r + 4)) 0 1 = some (some (r + 5)) := by rw [getR_ok (rb_eK B), B.2.2.2.2.2.2.1 1 (by omega) (by omega)]
theorem rb_e2 {h : Hp} {r k : Nat} (B : RB h r k) : getR h (some (r + 4)) 0 2 = some (some (r + 6)) := by rw [getR_ok (rb_eK B), B.2.2.2.2.2.2.1 2 (by omega) (by omega)]
theorem rb_e3 {h : Hp} {r k : Nat} (B : RB h r k) : getR h (some (r + 4)) 0 3 = some (some (r + 7)) := by rw [getR_ok (rb_eK B), B.2.2.2.2.2.2.1 3 (by omega) (by omega)]
theorem rb_e4 {h : Hp} {r k : Nat} (B : RB h r k) : getR h (some (r + 4)) 0 4 = some (some (r + 8)) := by rw [getR_ok (rb_eK B), B.2.2.2.2.2.2.1 4 (by omega) (by omega)]
theorem rb_e5 {h : Hp} {r k : Nat} (B : RB h r k) : getR h (some (r + 4)) 0 5 = some (some (r + 9)) := by rw [getR_ok (rb_eK B), B.2.2.2.2.2.2.1 5 (by omega) (by omega)]
theorem rb_e7 {h : Hp} {r k : Nat} (B : RB h r k) : getR h (some (r + 4)) 0 7 = some (some (r + 10)) := by rw [getR_ok (rb_eK B), B.2.2.2.2.2.2.2.1]
theorem rb_e8 {h : Hp} {r k : Nat} (B : RB h r k) : getR h (some (r + 4)) 0 8 = some (some (r + 11)) := by rw [getR_ok (rb_eK B), B.2.2.2.2.2.2.2.2.1]
theorem rb_kI {h : Hp} {r k o : Nat} (B : RB h r k) (h1 : 5 ≤ o) (h2 : o ≤ 8) : hpK h (r + o) = some (11, 4) := B.2.2.2.2.2.2.2.2.2.1 o h1 h2
theorem rb_aI {h : Hp} {r k o j : Nat} (B : RB h r k) (h1 : 5 ≤ o) (h2 : o ≤ 8) (hj : j < 4) : aldI h (some (r + o)) 11 (nI j) = some (hpI h (r + o) j) := by rw [aldI_ok (rb_kI B h1 h2) (ni_in hj (by omega)), ni_cl (by omega)]
theorem rb_sI {h : Hp} {r k o j : Nat} {v : Int32} (B : RB h r k) (h1 : 5 ≤ o) (h2 : o ≤ 8) (hj : j < 4) : astI h (some (r + o)) (nI j) v = some (stI h (r + o) j v) := by rw [astI_ok (rb_kI B h1 h2) (ni_in hj (by omega)), ni_cl (by omega)]
theorem rb_k9 {h : Hp} {r k : Nat} (B : RB h r k) : hpK h (r + 9) = some (10, 4) := B.2.2.2.2.2.2.2.2.2.2.1
theorem rb_a9 {h : Hp} {r k j : Nat} (B : RB h r k) (hj : j < 4) : aldD h (some (r + 9)) (nI j) = some (hpD h (r + 9) j) := by rw [aldD_ok (rb_k9 B) (ni_in hj (by omega)), ni_cl (by omega)]
theorem rb_s9 {h : Hp} {r k j : Nat} {v : UInt64} (B : RB h r k) (hj : j < 4) : astD h (some (r + 9)) (nI j) v = some (stD h (r + 9) j v) := by rw [astD_ok (rb_k9 B) (ni_in hj (by omega)), ni_cl (by omega)]
theorem rb_k10 {h : Hp} {r k : Nat} (B : RB h r k) : hpK h (r + 10) = some (11, 64) := B.2.2.2.2.2.2.2.2.2.2.2.1
theorem rb_k11 {h : Hp} {r k : Nat} (B : RB h r k) : hpK h (r + 11) = some (10, 64) := B.2.2.2.2.2.2.2.2.2.2.2.2.1
theorem rb_s0 {h : Hp} {r k : Nat} (B : RB h r k) : S0 h (r + 12) k := B.2.2.2.2.2.2.2.2.2.2.2.2.2
/-- a run with its law -/
def RS (h : Hp) (m L sg ns r : Nat) : Prop := m + 58 ≤ r ∧ (r + 41 ≤ L ∨ L + 10 ≤ r) ∧ ∀ s, s < ns → ∀ S, hpR h sg s = some S → S + 3 ≤ r ∨ r + 41 ≤ S
def WR (h : Hp) (m l n ns N k L sg r : Nat) : Prop := EN h m l n ns N k L sg ∧ RB h r k ∧ RN h (r + 1) 6 ∧ SN h (r + 12) ∧ RS h m L sg ns r ∧ hpR h r 0 = some L
def PR (k L r a : Nat) : Prop := Pn k L a ∨ (r ≤ a ∧ a < r + 41)
theorem wr_wt {h : Hp} {m l n ns N k L sg r : Nat} (W : WR h m l n ns N k L sg r) (e : hpR h (r + 12) 1 = some L) : WT h m l n ns N k L sg (r + 12) := by
  obtain ⟨E, B, n1, n2, ⟨s1, s2, s3⟩, -⟩ := W
  have p := E.2.2.2.2.2.2.2
  exact ⟨E, s0_st (rb_s0 B) e, n2, by have := p.1; omega, by omega, by omega, fun s hs S hS => by have := s3 s hs S hS; omega⟩
theorem pr_bd {h : Hp} {m l n ns N k L sg r a : Nat} (W : WR h m l n ns N k L sg r) (b : Bd h m L sg ns a) : ¬ PR k L r a := by
  rintro (p | p)
  · exact pn_bd W.1 b p
  · obtain ⟨s1, s2, s3⟩ := W.2.2.2.2.1
    rcases b with b | b | ⟨s, S, hs, hS, b⟩
    · omega
    · omega
    · have := s3 s hs S hS; omega
theorem wr_fr {h h' : Hp} {m l n ns N k L sg r : Nat} (W : WR h m l n ns N k L sg r) (F : Fr (PR k L r) h h') (K : RK h' k) (V : RN h' (L + 6) 48) (n1 : RN h' (r + 1) 6) (n2 : SN h' (r + 12)) : WR h' m l n ns N k L sg r :=
  ⟨en_fr W.1 F (fun a b => pr_bd W b) K V, fr_RB F W.2.1, n1, n2, by unfold RS; rw [F.2.2.1]; exact W.2.2.2.2.1, by rw [F.2.2.1]; exact W.2.2.2.2.2⟩
theorem pd_pr {k L r q a : Nat} (hq : IsR q) (p : Pd k L (r + 12 + q) a) : PR k L r a := by
  have := isr_le hq
  rcases p with p | p
  · exact Or.inl p
  · right; rcases p with e | e <;> omega
/-- only a row of the latest step is written -/
theorem wr_row {h h' : Hp} {m l n ns N k L sg r q : Nat} (W : WR h m l n ns N k L sg r) (hq : IsR q) (F : Fr (Pd k L (r + 12 + q)) h h') (W' : WT h' m l n ns N k L sg (r + 12)) : WR h' m l n ns N k L sg r := by
  have s := W.2.2.2.2.1
  have p := W.1.2.2.2.2.2.2.2
  have hl := isr_le hq
  have np : ∀ a, (a = r + 1 + 1 ∨ a = r + 1 + 2) → ¬ Pd k L (r + 12 + q) a := fun a ha z => by
    have s1 := s.1
    have s2 := s.2.1
    have p1 := p.1
    rcases z with z | z
    · rcases z with z | z | z <;> omega
    · rcases z with z | z <;> omega
  exact wr_fr W (F.mono (fun a z => pd_pr hq z)) W'.1.1 W'.1.2.2.2.2.2.1 (fr_RN F (np _ (Or.inl rfl)) (np _ (Or.inr rfl)) W.2.2.1) W'.2.2.1
theorem wt_pn {h h' : Hp} {m l n ns N k L sg T : Nat} (W : WT h m l n ns N k L sg T) (F : Fr (Pn k L) h h') (E : EN h' m l n ns N k L sg) : WT h' m l n ns N k L sg T :=
  wt_fr W i4 (F.mono (fun a p => Or.inl p)) E.1 E.2.2.2.2.2.1 (fr_RN F (pd_n W i4 (Or.inl rfl)).2 (pd_n W i4 (Or.inr rfl)).2 (W.2.2.1 _ i4))
/-! ===== where an event comes ===== -/
theorem t_at0 {t hf : UInt64} (nt : Nm t) (tz : t ≠ mz) (fh : Fn hf) : FP.dadd t (FP.dmul FP.dconst0 hf) = t := by
  have z : ky (FP.dmul FP.dconst0 hf) = 0 := by
    have h1 : FP.Core.DZero (FP.Core.dmul hf FP.dconst0) := FP.Core.dmul_zero (fin_ky.mpr fh) (zero_ky.mpr ky_0)
    have h2 : FP.dmul FP.dconst0 hf = FP.Core.dmul hf FP.dconst0 := FP.Core.dmul_comm _ _
    rw [h2]; exact zero_ky.mp h1
  rcases zero_is z with e | e
  · rw [e]; exact FP.Core.dadd_zero (nm_val.mp nt) tz
  · rw [e]; exact FP.Core.dadd_zeroNeg (nm_val.mp nt)
theorem t_at1 {t hf : UInt64} (fh : Fn hf) : FP.dadd t (FP.dmul FP.dconst1 hf) = FP.dadd t hf := by
  have h1 : FP.dmul FP.dconst1 hf = hf := by
    have h2 : FP.dmul FP.dconst1 hf = FP.Core.dmul hf FP.Core.dconst1 := FP.Core.dmul_comm _ _
    rw [h2]; exact FP.Core.dmul_one (nm_val.mp fh.nm)
  rw [h1]
theorem va_0 {V : UInt64 → (Nat → UInt64) → Nat → UInt64} {A : RecT} {nar : Int32} {q : Nat} (nt : Nm (A.2 37 0)) (tz : A.2 37 0 ≠ mz) (fh : HB (A.2 38 0)) : vaS V A nar q FP.dconst0 = V (A.2 37 0) (A.2 39) q := by
  have e : cuS A nar FP.dconst0 = A.2 39 := by
    funext i
    unfold cuS
    rw [if_pos (cl_eq.mpr ⟨⟨nm_0, nm_0⟩, rfl⟩)]
  unfold vaS
  rw [t_at0 nt tz fh.fn, e]
theorem va_1 {V : UInt64 → (Nat → UInt64) → Nat → UInt64} {A : RecT} {nar : Int32} {q : Nat} (fh : HB (A.2 38 0)) : vaS V A nar q FP.dconst1 = V (FP.dadd (A.2 37 0) (A.2 38 0)) (A.2 40) q := by
  have e : cuS A nar FP.dconst1 = A.2 40 := by
    funext i
    unfold cuS
    rw [if_neg (fun z => by have := (cl_eq.mp z).2; rw [ky_1, ky_0] at this; omega), if_pos (cl_eq.mpr ⟨⟨nm_1, nm_1⟩, rfl⟩)]
  unfold vaS
  rw [t_at1 fh.fn, e]
theorem sgo_lt {v : UInt64} : sgo v = -1 ↔ ¬ 0 ≤ cg v FP.dconst0 := by
  rw [cg_ge, ky_0]
  unfold sgo
  by_cases p1 : (ky v).natAbs ≤ 9218868437227405312
  · have n1 : Nm v := p1
    rw [if_pos p1]
    by_cases p2 : ky v < 0
    · rw [if_pos p2]; exact ⟨fun _ z => z.elim (fun w => w ⟨n1, nm_0⟩) (fun w => by omega), fun _ => rfl⟩
    · rw [if_neg p2]
      constructor
      · intro z; split at z <;> exact absurd z (by decide)
      · intro z; exact absurd (Or.inr (by omega)) z
  · rw [if_neg p1]
    exact ⟨fun z => absurd z (by decide), fun z => absurd (Or.inl (fun w => p1 w.1)) z⟩
theorem sgo_gt {v : UInt64} : sgo v = 1 ↔ ¬ cl v FP.dconst0 ≤ 0 := by
  rw [cl_le, ky_0]
  unfold sgo
  by_cases p1 : (ky v).natAbs ≤ 9218868437227405312
  · have n1 : Nm v := p1
    rw [if_pos p1]
    by_cases p2 : ky v < 0
    · rw [if_pos p2]; exact ⟨fun z => absurd z (by decide), fun z => absurd (Or.inr (by omega)) z⟩
    · rw [if_neg p2]
      by_cases p3 : 0 < ky v
      · rw [if_pos p3]; exact ⟨fun _ z => z.elim (fun w => w ⟨n1, nm_0⟩) (fun w => by omega), fun _ => rfl⟩
      · rw [if_neg p3]; exact ⟨fun z => absurd z (by decide), fun z => absurd (Or.inr (by omega)) z⟩
  · rw [if_neg p1]
    exact ⟨fun z => absurd z (by decide), fun z => absurd (Or.inl (fun w => p1 w.1)) z⟩
theorem sgo_ge {v : UInt64} : (sgo v = 0 ∨ sgo v = 1) ↔ ¬ cl v FP.dconst0 < 0 := by
  rw [cl_lt, ky_0]
  unfold sgo
  by_cases p1 : (ky v).natAbs ≤ 9218868437227405312
  · have n1 : Nm v := p1
    rw [if_pos p1]
    by_cases p2 : ky v < 0
    · rw [if_pos p2]; exact ⟨fun z => by rcases z with z | z <;> exact absurd z (by decide), fun z => absurd (Or.inr p2) z⟩
    · rw [if_neg p2]
      refine ⟨fun _ z => z.elim (fun w => w ⟨n1, nm_0⟩) p2, fun _ => ?_⟩
      split
      · exact Or.inr rfl
      · exact Or.inl rfl
  · rw [if_neg p1]
    exact ⟨fun z => by rcases z with z | z <;> exact absurd z (by decide), fun z => absurd (Or.inl (fun w => p1 w.1)) z⟩
theorem sgo_le {v : UInt64} : (sgo v = 0 ∨ sgo v = -1) ↔ ¬ 0 < cg v FP.dconst0 := by
  rw [cg_gt, ky_0]
  unfold sgo
  by_cases p1 : (ky v).natAbs ≤ 9218868437227405312
  · have n1 : Nm v := p1
    rw [if_pos p1]
    by_cases p2 : ky v < 0
    · rw [if_pos p2]; exact ⟨fun _ z => z.elim (fun w => w ⟨n1, nm_0⟩) (fun w => by omega), fun _ => Or.inr rfl⟩
    · rw [if_neg p2]
      by_cases p3 : 0 < ky v
      · rw [if_pos p3]; exact ⟨fun z => by rcases z with z | z <;> exact absurd z (by decide), fun z => absurd (Or.inr p3) z⟩
      · rw [if_neg p3]; exact ⟨fun _ z => z.elim (fun w => w ⟨n1, nm_0⟩) p3, fun _ => Or.inl rfl⟩
  · rw [if_neg p1]
    exact ⟨fun z => by rcases z with z | z <;> exact absurd z (by decide), fun z => absurd (Or.inl (fun w => p1 w.1)) z⟩
/-- which turn an event makes -/
noncomputable def tuV (a b : UInt64) (way : Int32) : Int32 := @ite _ (risP a b way) (Classical.propDecidable _) 1 (@ite _ (falP a b way) (Classical.propDecidable _) (-1) 0)
theorem c_turn {h : Hp} {r k j : Nat} {a b way : _} (B : RB h r k) (hj : j < 4) (ew : hpI h (r + 6) j = way) : f_X0_turn (r + 4) (nI j) (sgo a) (sgo b) h = some (tuV a b way, h) := by
  have ar : aldI h (some (r + 6)) 11 (nI j) = some way := by rw [rb_aI B (by omega) (by omega) hj, ew]
  have t39 : sgo a = 1 → (sgo b = 0 ∨ sgo b = -1) → f_X0_turn_39 (some (r + 4)) (nI j) h = some (tuV a b way, h) := fun s1 s2 => by
    unfold f_X0_turn_39 f_X0_turn_50 tuV
    rw [rb_e2 B, Option.bind_some, ar, Option.bind_some]
    have nr : ¬ risP a b way := fun z => by have := sgo_lt.mpr z.1; rw [s1] at this; exact absurd this (by decide)
    rw [if_neg nr]
    by_cases w : 0 < way
    · rw [if_pos w, if_neg (fun z : falP a b way => z.2.2 w)]
    · rw [if_neg w, if_pos (show falP a b way from ⟨sgo_gt.mp s1, sgo_le.mp s2, w⟩)]
  have t25 : ¬ risP a b way → f_X0_turn_25 (some (r + 4)) (nI j) (sgo a) (sgo b) h = some (tuV a b way, h) := fun nr => by
    have no : ¬ falP a b way → f_X0_turn_50 h = some (tuV a b way, h) := fun nf => by unfold f_X0_turn_50 tuV; rw [if_neg nr, if_neg nf]
    unfold f_X0_turn_25
    by_cases s1 : sgo a = 1
    · rw [if_neg (fun z => z s1)]
      by_cases s2 : sgo b = 0
      · rw [if_pos s2]; exact t39 s1 (Or.inl s2)
      · rw [if_neg s2]
        by_cases s3 : sgo b = -1
        · rw [if_neg (fun z => z s3)]; exact t39 s1 (Or.inr s3)
        · rw [if_pos s3]; exact no (fun z => (sgo_le.mpr z.2.1).elim s2 s3)
    · rw [if_pos s1]; exact no (fun z => s1 (sgo_gt.mpr z.1))
  have t14 : sgo a = -1 → (sgo b = 0 ∨ sgo b = 1) → f_X0_turn_14 (some (r + 4)) (nI j) (sgo a) (sgo b) h = some (tuV a b way, h) := fun s1 s2 => by
    unfold f_X0_turn_14
    rw [rb_e2 B, Option.bind_some, ar, Option.bind_some]
    by_cases w : way < 0
    · rw [if_pos w]; exact t25 (fun z => z.2.2 w)
    · rw [if_neg w]; unfold tuV; rw [if_pos (show risP a b way from ⟨sgo_lt.mp s1, sgo_ge.mp s2, w⟩)]
  unfold f_X0_turn
  by_cases s1 : sgo a = -1
  · rw [if_neg (fun z => z s1)]
    by_cases s2 : sgo b = 0
    · rw [if_pos s2]; exact t14 s1 (Or.inl s2)
    · rw [if_neg s2]
      by_cases s3 : sgo b = 1
      · rw [if_neg (fun z => z s3)]; exact t14 s1 (Or.inr s3)
      · rw [if_pos s3]; exact t25 (fun z => (sgo_ge.mpr z.2.1).elim s2 s3)
  · rw [if_pos s1]; exact t25 (fun z => s1 (sgo_lt.mpr z.1))
