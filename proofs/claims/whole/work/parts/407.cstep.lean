/-! ===== a step's object of the class ===== -/
def IsR (r : Nat) : Prop := r = 1 ∨ r = 4 ∨ r = 7 ∨ r = 11 ∨ r = 14 ∨ r = 17 ∨ r = 20 ∨ r = 23 ∨ r = 26
theorem isr_ne {r q : Nat} (h : IsR r) (h' : IsR q) (e : r ≠ q) : r + 3 ≤ q ∨ q + 3 ≤ r := by
  rcases h with rfl | rfl | rfl | rfl | rfl | rfl | rfl | rfl | rfl <;> rcases h' with rfl | rfl | rfl | rfl | rfl | rfl | rfl | rfl | rfl <;> omega
theorem isr_le {r : Nat} (h : IsR r) : 1 ≤ r ∧ r ≤ 26 := by rcases h with rfl | rfl | rfl | rfl | rfl | rfl | rfl | rfl | rfl <;> omega
theorem isr_k {j : Nat} (h : j < 4) : IsR (11 + 3 * j) := by unfold IsR; omega
def ST (h : Hp) (T k L : Nat) : Prop := hpK h T = some (6, 0) ∧ hpR h T 0 = some k ∧ hpR h T 1 = some L ∧ hpR h T 6 = some (T + 1) ∧ hpR h T 7 = some (T + 4) ∧ hpR h T 8 = some (T + 7) ∧ hpR h T 9 = some (T + 10) ∧ hpR h T 10 = some (T + 23) ∧ hpR h T 11 = some (T + 26) ∧ hpK h (T + 10) = some (14, 4) ∧ (∀ j, j < 4 → hpR h (T + 10) j = some (T + (11 + 3 * j))) ∧ ∀ r, IsR r → RW h (T + r) 6
def SN (h : Hp) (T : Nat) : Prop := ∀ r, IsR r → RN h (T + r) 6
def TS (h : Hp) (m k L sg ns T : Nat) : Prop := k < T ∧ (T + 29 ≤ m ∨ m + 58 ≤ T) ∧ (T + 29 ≤ L ∨ L + 10 ≤ T) ∧ ∀ s, s < ns → ∀ S, hpR h sg s = some S → S + 3 ≤ T ∨ T + 29 ≤ S
def WT (h : Hp) (m l n ns N k L sg T : Nat) : Prop := EN h m l n ns N k L sg ∧ ST h T k L ∧ SN h T ∧ TS h m k L sg ns T
theorem st_ck {h : Hp} {T k L : Nat} (S : ST h T k L) : ab_ck h (some T) (6, 0) = some T := ck_ok S.1
theorem st_g0 {h : Hp} {T k L : Nat} (S : ST h T k L) : getR h (some T) 6 0 = some (some k) := by rw [getR_ok S.1, S.2.1]
theorem st_g1 {h : Hp} {T k L : Nat} (S : ST h T k L) : getR h (some T) 6 1 = some (some L) := by rw [getR_ok S.1, S.2.2.1]
theorem st_g6 {h : Hp} {T k L : Nat} (S : ST h T k L) : getR h (some T) 6 6 = some (some (T + 1)) := by rw [getR_ok S.1, S.2.2.2.1]
theorem st_g7 {h : Hp} {T k L : Nat} (S : ST h T k L) : getR h (some T) 6 7 = some (some (T + 4)) := by rw [getR_ok S.1, S.2.2.2.2.1]
theorem st_g8 {h : Hp} {T k L : Nat} (S : ST h T k L) : getR h (some T) 6 8 = some (some (T + 7)) := by rw [getR_ok S.1, S.2.2.2.2.2.1]
theorem st_g9 {h : Hp} {T k L : Nat} (S : ST h T k L) : getR h (some T) 6 9 = some (some (T + 10)) := by rw [getR_ok S.1, S.2.2.2.2.2.2.1]
theorem st_g10 {h : Hp} {T k L : Nat} (S : ST h T k L) : getR h (some T) 6 10 = some (some (T + 23)) := by rw [getR_ok S.1, S.2.2.2.2.2.2.2.1]
theorem st_g11 {h : Hp} {T k L : Nat} (S : ST h T k L) : getR h (some T) 6 11 = some (some (T + 26)) := by rw [getR_ok S.1, S.2.2.2.2.2.2.2.2.1]
theorem st_gd {h : Hp} {T k L j : Nat} (S : ST h T k L) : getD h (some T) 6 j = some (hpD h T j) := getD_ok S.1
theorem st_gi {h : Hp} {T k L j : Nat} (S : ST h T k L) : getI h (some T) 6 j = some (hpI h T j) := getI_ok S.1
theorem st_k {h : Hp} {T k L j : Nat} (S : ST h T k L) (hj : j < 4) : aldR h (some (T + 10)) 14 (nI j) = some (some (T + (11 + 3 * j))) := by
  rw [aldR_ok S.2.2.2.2.2.2.2.2.2.1 (ni_in hj (by omega)), ni_cl (by omega), S.2.2.2.2.2.2.2.2.2.2.1 j hj]
theorem st_r {h : Hp} {T k L r : Nat} (S : ST h T k L) (hr : IsR r) : RW h (T + r) 6 := S.2.2.2.2.2.2.2.2.2.2.2 r hr
theorem fr_ST {P : Nat → Prop} {h0 h : Hp} {T k L : Nat} (F : Fr P h0 h) (S : ST h0 T k L) : ST h T k L := by
  unfold ST RW; rw [F.2.1, F.2.2.1]; exact S
theorem wt_gn {h : Hp} {m l n ns N k L sg T : Nat} (W : WT h m l n ns N k L sg T) : getI h (some L) 1 1 = some (nI n) := by rw [lo_gi W.1.2.1, W.1.2.2.2.1.2.1]
theorem wt_n {h : Hp} {m l n ns N k L sg T : Nat} (W : WT h m l n ns N k L sg T) : n ≤ 6 := W.1.2.2.1.2.1.2.2.2.1
theorem wt_N {h : Hp} {m l n ns N k L sg T : Nat} (W : WT h m l n ns N k L sg T) : N ≤ 48 := W.1.2.2.1.2.1.2.1
/-- the work on one row of a step -/
def Pd (k L d a : Nat) : Prop := Pn k L a ∨ Pr d a
theorem pd_bd {h : Hp} {m l n ns N k L sg T r a : Nat} (W : WT h m l n ns N k L sg T) (hr : IsR r) (b : Bd h m L sg ns a) : ¬ Pd k L (T + r) a := by
  rintro (p | p)
  · exact pn_bd W.1 b p
  · obtain ⟨t1, t2, t3, t4⟩ := W.2.2.2
    have := isr_le hr
    rcases b with b | b | ⟨s, S, hs, hS, b⟩
    · rcases p with e | e <;> omega
    · rcases p with e | e <;> omega
    · have := t4 s hs S hS
      rcases p with e | e <;> omega
theorem pd_n {h : Hp} {m l n ns N k L sg T r a : Nat} (W : WT h m l n ns N k L sg T) (hr : IsR r) (p : Pr (T + r) a) : ¬ Bd h m L sg ns a ∧ ¬ Pn k L a := by
  refine ⟨fun b => pd_bd W hr b (Or.inr p), ?_⟩
  obtain ⟨t1, t2, t3, t4⟩ := W.2.2.2
  obtain ⟨-, -, -, -, -, -, -, p1, p2, p3⟩ := W.1
  have := isr_le hr
  rintro (e | e | e) <;> rcases p with e' | e' <;> omega
theorem pd_row {h : Hp} {m l n ns N k L sg T r q : Nat} (W : WT h m l n ns N k L sg T) (hr : IsR r) (hq : IsR q) (e : q ≠ r) : ¬ Pd k L (T + r) (T + q + 1) ∧ ¬ Pd k L (T + r) (T + q + 2) := by
  have := isr_ne hr hq (Ne.symm e)
  refine ⟨?_, ?_⟩
  · rintro (p | p)
    · exact (pd_n W hq (Or.inl rfl)).2 p
    · rcases p with e' | e' <;> omega
  · rintro (p | p)
    · exact (pd_n W hq (Or.inr rfl)).2 p
    · rcases p with e' | e' <;> omega
theorem pd_T {h : Hp} {m l n ns N k L sg T r : Nat} (W : WT h m l n ns N k L sg T) (hr : IsR r) : ¬ Pd k L (T + r) T := by
  obtain ⟨t1, t2, t3, t4⟩ := W.2.2.2
  have := isr_le hr
  rintro (p | p)
  · rcases p with e | e | e <;> omega
  · rcases p with e | e <;> omega
theorem wt_fr {h h' : Hp} {m l n ns N k L sg T r : Nat} (W : WT h m l n ns N k L sg T) (hr : IsR r) (F : Fr (Pd k L (T + r)) h h') (K : RK h' k) (V : RN h' (L + 6) 48) (R : RN h' (T + r) 6) : WT h' m l n ns N k L sg T := by
  refine ⟨en_fr W.1 F (fun a b => pd_bd W hr b) K V, fr_ST F W.2.1, fun q hq => ?_, ?_⟩
  · by_cases e : q = r
    · rw [e]; exact R
    · exact fr_RN F (pd_row W hr hq e).1 (pd_row W hr hq e).2 (W.2.2.1 q hq)
  · unfold TS; rw [F.2.2.1]; exact W.2.2.2
theorem wt_LE {h h' : Hp} {m l n ns N k L sg T r : Nat} (W : WT h m l n ns N k L sg T) (hr : IsR r) (F : Fr (Pd k L (T + r)) h h') : LE h h' m := fr_LE F (fun _ h1 h2 => pd_bd W hr (Or.inl ⟨h1, h2⟩))
theorem wt_fR {h h' : Hp} {m l n ns N k L sg T r : Nat} (W : WT h m l n ns N k L sg T) (hr : IsR r) (F : Fr (Pd k L (T + r)) h h') : fR h' m l N = fR h m l N := le_fR (wt_LE W hr F)
theorem wt_RV {h h' : Hp} {m l n ns N k L sg T r q : Nat} (W : WT h m l n ns N k L sg T) (hr : IsR r) (F : Fr (Pd k L (T + r)) h h') (hq : IsR q) (e : q ≠ r) : RV h' (T + q) = RV h (T + q) := fr_RV F (pd_row W hr hq e).1 (pd_row W hr hq e).2
theorem wt_TD {h h' : Hp} {m l n ns N k L sg T r : Nat} (W : WT h m l n ns N k L sg T) (hr : IsR r) (F : Fr (Pd k L (T + r)) h h') : hpD h' T = hpD h T := (F.2.2.2 _ (pd_T W hr)).2
theorem wt_TI {h h' : Hp} {m l n ns N k L sg T r : Nat} (W : WT h m l n ns N k L sg T) (hr : IsR r) (F : Fr (Pd k L (T + r)) h h') : hpI h' T = hpI h T := (F.2.2.2 _ (pd_T W hr)).1
theorem wt_nar {h h' : Hp} {m l n ns N k L sg T r : Nat} (W : WT h m l n ns N k L sg T) (hr : IsR r) (F : Fr (Pd k L (T + r)) h h') : hpI h' (m + 2) l = hpI h (m + 2) l := le_nar (wt_LE W hr F)
/-- a value that is finite lies there as its number -/
theorem fn_num {h : Hp} {a i : Nat} (f : Fn (RV h a i)) : hpD h (a + 1) i = RV h a i := by
  unfold RV at f ⊢
  by_cases q : hpI h (a + 2) i = 0
  · rw [if_pos q]
  · rw [if_neg q] at f; exact absurd f.nm nm_nanV
theorem c_slope {h : Hp} {m l n ns N k L sg T r j : Nat} {t : UInt64} (W : WT h m l n ns N k L sg T) (hr : IsR r) (hj : j < 4) (hrj : r ≠ 11 + 3 * j) (nt : Nm t) :
    ∃ w h', f_X6_slope T (nI j) t (some (T + r)) h = some (w, h') ∧ WT h' m l n ns N k L sg T ∧ Fr (Pd k L (T + (11 + 3 * j))) h h' ∧ (w = 0 ∨ w = 1) ∧ (w = 1 ↔ ∀ i, i < n → Fn (fR h m l N t (RV h (T + r)) i)) ∧ ∀ i, i < n → RV h' (T + (11 + 3 * j)) i = fR h m l N t (RV h (T + r)) i := by
  have hk := isr_k hj
  have hn := wt_n W
  have hN := wt_N W
  obtain ⟨E', e1, e2, e3⟩ := W.1.2.2.2.2.2.2.1
  have p1 : ¬ Pn k L (T + r + 1) := (pd_n W hr (Or.inl rfl)).2
  have p2 : ¬ Pn k L (T + r + 2) := (pd_n W hr (Or.inr rfl)).2
  obtain ⟨h1, r1, F1, E1, v1⟩ := c_reckonNodes W.1 (st_r W.2.1 hr) (W.2.2.1 r hr) e2 nt p1 p2
  have F1' : Fr (Pd k L (T + (11 + 3 * j))) h h1 := F1.mono (fun a p => Or.inl p)
  have q1 : ¬ Pn k L (T + (11 + 3 * j) + 1) := (pd_n W hk (Or.inl rfl)).2
  have q2 : ¬ Pn k L (T + (11 + 3 * j) + 2) := (pd_n W hk (Or.inr rfl)).2
  have W1 := wt_fr W hk F1' E1.1 E1.2.2.2.2.2.1 (fr_RN F1 q1 q2 (W.2.2.1 _ hk))
  obtain ⟨h2, r2, F2, N2, v2, v2'⟩ := c_readSides E1 (st_r W1.2.1 hk) (W1.2.2.1 _ hk) (fun a p => pd_n W1 hk p)
  have F2' : Fr (Pd k L (T + (11 + 3 * j))) h1 h2 := F2.mono (fun a p => Or.inr p)
  have K2 : RK h2 k := rk_fr F2 (F2.2.2.2 k (fun p => (pd_n W1 hk p).2 (Or.inl rfl))).2 E1.1
  have V2 : RN h2 (L + 6) 48 := fr_RN F2 (fun p => (pd_n W1 hk p).2 (Or.inr (Or.inl (by omega)))) (fun p => (pd_n W1 hk p).2 (Or.inr (Or.inr (by omega)))) E1.2.2.2.2.2.1
  have W2 := wt_fr W1 hk F2' K2 V2 N2
  have F := F1'.trans F2'
  have val : ∀ i, i < n → RV h2 (T + (11 + 3 * j)) i = fR h m l N t (RV h (T + r)) i := fun i hi => by
    have hm4 : hpI h1 (m + 4) = hpI h (m + 4) := (F1.2.2.2 _ (fun p => pn_bd W.1 (Or.inl ⟨by omega, by omega⟩) p)).1
    rw [v2 i hi, hm4, v1 _ (e3 i hi)]; rfl
  obtain ⟨w, r3, w01, w1⟩ := c_isFinite (st_r W2.2.1 hk) (W2.2.2.1 _ hk) (show n ≤ 6 from hn) (by omega)
  refine ⟨w, h2, ?_, W2, F, w01, w1.trans ⟨fun z i hi => by rw [← val i hi]; exact z i hi, fun z i hi => by rw [val i hi]; exact z i hi⟩, val⟩
  unfold f_X6_slope
  have s0 := W.2.1
  have s1 := W1.2.1
  have s2 := W2.2.1
  have g12 : getI h (some L) 1 12 = some (nI E') := by rw [lo_gi W.1.2.1, e1]
  rw [st_g1 s0, Option.bind_some, Option.bind_some, g12, Option.bind_some, lo_ck W.1.2.1, Option.bind_some, r1, bnd_some, st_g1 s1, Option.bind_some, st_g9 s1, Option.bind_some, st_k s1 hj, Option.bind_some, lo_ck W1.1.2.1, Option.bind_some, r2, bnd_some, st_g9 s2, Option.bind_some, st_k s2 hj, Option.bind_some, st_g1 s2, Option.bind_some, wt_gn W2, Option.bind_some, rw_ck (st_r s2 hk), Option.bind_some, r3, bnd_some, if_pos w01]
/-- a value is made out of a slope and put -/
theorem c_arrive {h : Hp} {m l n ns N k L sg T r s i : Nat} {f : Int32} {w sl SL : UInt64} (W : WT h m l n ns N k L sg T) (hr : IsR r) (hs : IsR s) (hi : i < 6) (nw : Nm w) (e : Ev f sl SL) :
    ∃ f', f_X6_arrive T (some (T + r)) (nI i) (some (T + s)) w sl (stI h k 1 f) = some ((), wrV (stI h k 1 f') (T + r) i (pV (narB (hpI h (m + 2) l) (nI i)) (cn (FP.dadd (RV h (T + s) i) (cn (FP.dmul w SL)))))) := by
  have K := W.1.1
  have S := W.2.1
  have Sf : ∀ f, ST (stI h k 1 f) T k L := fun _ => S
  have Lf : ∀ f, LO (stI h k 1 f) L k sg n := fun _ => W.1.2.1
  have Kf : ∀ f, RK (stI h k 1 f) k := fun _ => K
  have e1 := ev_op' (op := FP.dmul) hop_mul (c := w) e
  have ks : k ≠ T + s + 2 := fun z => (pd_n W hs (Or.inr rfl)).2 (Or.inl z.symm)
  have kL : k ≠ L := by have h1 := W.1.2.2.2.2.2.2.2.1; have h2 := W.1.2.2.2.2.2.2.2.2.1; omega
  have e2 := ev_read (W.2.2.1 s hs) hi e1
  have e3 := ev2_op (op := FP.dadd) hop_add (ev2_sw e2)
  refine ⟨fg (fr (fg f (FP.dmul w sl)) (hpI h (T + s + 2) i)) (FP.dadd (hpD h (T + s + 1) i) (nz (FP.dmul w sl))), ?_⟩
  unfold f_X6_arrive
  have gf : ∀ f, getI (stI h k 1 f) (some k) 2 1 = some f := fun f => by rw [getI_ok (rk_stI K).1, hpI_stI_self]
  have nar : hpI h L 2 = hpI h (m + 2) l := W.1.2.2.2.1.2.2.1
  have narf : ∀ f, hpI (stI h k 1 f) L 2 = hpI h (m + 2) l := fun f => by rw [hpI_stI_ne (Or.inl (Ne.symm kL)), nar]
  rw [st_g0 (Sf f), Option.bind_some, rk_ck (Kf f), Option.bind_some, c_product K nw e.nm, bnd_some, st_g0 (Sf _), Option.bind_some, Option.bind_some, rk_ck (Kf _), Option.bind_some, c_read K (st_r S hs) hi (by omega) ks e1.f01, bnd_some, rk_ck (Kf _), Option.bind_some, c_sum K e2.2.1 e2.1, bnd_some, st_g0 (Sf _), Option.bind_some, gf, Option.bind_some, st_g1 (Sf _), Option.bind_some, lo_ck (Lf _), Option.bind_some, c_isNarrow (Lf _), bnd_some, narf, rw_ck (st_r (Sf _) hr), Option.bind_some, c_put (st_r (Sf _) hr) hi (by omega) e3, bnd_some]
  congr 4
  by_cases z : narB (hpI h (m + 2) l) (nI i) = true
  · rw [if_pos z, z]; rfl
  · rw [if_neg z, Bool.eq_false_iff.mpr z]; rfl
theorem loop_relA {β : Type} (F : Nat → Int32 → Hp → Option β) (P : Nat → Hp → Prop) {n a : Nat} {res : Hp → Option β} (hn : n < 999) (ha : a ≤ n)
    (hstep : ∀ fuel i h, a ≤ i → i < n → P i h → ∃ h', F (fuel + 1) (nI i) h = F fuel (nI (i + 1)) h' ∧ P (i + 1) h')
    (hend : ∀ fuel h, P n h → F (fuel + 1) (nI n) h = res h) : ∀ h, P a h → ∃ h', F fuelN (nI a) h = res h' ∧ P n h' := by
  have key : ∀ (d i fuel : Nat) (h : Hp), a ≤ i → i + d = n → d < fuel → P i h → ∃ h', F fuel (nI i) h = res h' ∧ P n h' := by
    intro d
    induction d with
    | zero =>
      intro i fuel h _ hi hf hp
      obtain ⟨fuel, rfl⟩ : ∃ j, fuel = j + 1 := ⟨fuel - 1, by omega⟩
      have : i = n := by omega
      subst this
      exact ⟨h, hend fuel h hp, hp⟩
    | succ d ih =>
      intro i fuel h h0 hi hf hp
      obtain ⟨fuel, rfl⟩ : ∃ j, fuel = j + 1 := ⟨fuel - 1, by omega⟩
      obtain ⟨h', e, p⟩ := hstep fuel i h h0 (by omega) hp
      obtain ⟨h2, e2, p2⟩ := ih (i + 1) fuel h' (by omega) (by omega) (by omega) p
      exact ⟨h2, by rw [e, e2], p2⟩
  intro h hp
  exact key (n - a) a fuelN h (Nat.le_refl _) (by omega) (by unfold fuelN; omega) hp
/-- one value is written into a step's row -/
theorem wt_wr {h0 h : Hp} {m l n ns N k L sg T r i : Nat} {f : Int32} {X : UInt64} (W : WT h m l n ns N k L sg T) (hr : IsR r) (F : Fr (Pd k L (T + r)) h0 h) (cX : Cv X) : WT (wrV (stI h k 1 f) (T + r) i X) m l n ns N k L sg T ∧ Fr (Pd k L (T + r)) h0 (wrV (stI h k 1 f) (T + r) i X) ∧ ∀ q, RV (wrV (stI h k 1 f) (T + r) i X) (T + r) q = if q = i then X else RV h (T + r) q := by
  have G : Fr (Pd k L (T + r)) h (wrV (stI h k 1 f) (T + r) i X) := fr_wrV (fr_stI (Fr.refl _ h) (Or.inl (Or.inl rfl))) (Or.inr (Or.inl rfl)) (Or.inr (Or.inr rfl))
  have a1 := (pd_n W hr (Or.inl rfl)).2
  have a2 := (pd_n W hr (Or.inr rfl)).2
  have k1 : k ≠ T + r + 1 := fun z => a1 (Or.inl z.symm)
  have k2 : k ≠ T + r + 2 := fun z => a2 (Or.inl z.symm)
  have l7 : L + 6 + 1 ≠ T + r + 1 := fun z => a1 (Or.inr (Or.inl (by omega)))
  have l8 : L + 6 + 2 ≠ T + r + 2 := fun z => a2 (Or.inr (Or.inr (by omega)))
  have k8 : L + 6 + 2 ≠ k := by have h1 := W.1.2.2.2.2.2.2.2.1; have h2 := W.1.2.2.2.2.2.2.2.2.1; omega
  have R0 : RN (stI h k 1 f) (T + r) 6 := fun j hj => by rw [hpI_stI_ne (Or.inl (Ne.symm k2))]; exact W.2.2.1 r hr j hj
  have K : RK (wrV (stI h k 1 f) (T + r) i X) k := ⟨W.1.1.1, by rw [wrV_D k1]; exact W.1.1.2⟩
  have V : RN (wrV (stI h k 1 f) (T + r) i X) (L + 6) 48 := fun j hj => by
    rw [wrV_D l7, wrV_I l8, hpI_stI_ne (Or.inl k8)]; exact W.1.2.2.2.2.2.1 j hj
  refine ⟨wt_fr W hr G K V (RN_wrV R0), F.trans G, fun q => ?_⟩
  rw [RV_wrV cX]
  have : RV (stI h k 1 f) (T + r) q = RV h (T + r) q := by unfold RV; rw [hpI_stI_ne (Or.inl (Ne.symm k2))]; rfl
  rw [this]
/-- a loop that writes a step's row -/
theorem c_loop {β : Type} (F : Nat → Int32 → Hp → Option β) {h : Hp} {m l n ns N k L sg T r a b : Nat} {res : Hp → Option β} (val : Nat → UInt64) (W : WT h m l n ns N k L sg T) (hr : IsR r) (ha : a ≤ b) (hb : b ≤ 6)
    (hstep : ∀ fuel i hi, a ≤ i → i < b → WT hi m l n ns N k L sg T → Fr (Pd k L (T + r)) h hi → ∃ f, F (fuel + 1) (nI i) hi = F fuel (nI (i + 1)) (wrV (stI hi k 1 f) (T + r) i (val i)))
    (hcv : ∀ i, a ≤ i → i < b → Cv (val i))
    (hend : ∀ fuel hi, WT hi m l n ns N k L sg T → F (fuel + 1) (nI b) hi = res hi) :
    ∃ h', F fuelN (nI a) h = res h' ∧ WT h' m l n ns N k L sg T ∧ Fr (Pd k L (T + r)) h h' ∧ (∀ i, a ≤ i → i < b → RV h' (T + r) i = val i) ∧ ∀ i, (i < a ∨ b ≤ i) → RV h' (T + r) i = RV h (T + r) i := by
  obtain ⟨h', e, W', F', v1, v2⟩ := loop_relA F (fun i h' => WT h' m l n ns N k L sg T ∧ Fr (Pd k L (T + r)) h h' ∧ (∀ q, a ≤ q → q < i → RV h' (T + r) q = val q) ∧ ∀ q, (q < a ∨ i ≤ q) → RV h' (T + r) q = RV h (T + r) q) (n := b) (a := a) (res := res) (by omega) ha (by
    rintro fuel i hi h1 h2 ⟨Wi, Fi, v1, v2⟩
    obtain ⟨f, e⟩ := hstep fuel i hi h1 h2 Wi Fi
    obtain ⟨W', F', v⟩ := wt_wr (i := i) (f := f) Wi hr Fi (hcv i h1 h2)
    refine ⟨_, e, W', F', fun q q1 q2 => ?_, fun q q1 => ?_⟩
    · rw [v]
      by_cases z : q = i
      · rw [if_pos z, z]
      · rw [if_neg z]; exact v1 q q1 (by omega)
    · rw [v, if_neg (by omega)]; exact v2 q (by omega)) (by
    rintro fuel hi ⟨Wi, -⟩
    exact hend fuel hi Wi) h ⟨W, Fr.refl _ h, fun q h1 h2 => by omega, fun _ _ => rfl⟩
  exact ⟨h', e, W', F', v1, v2⟩
