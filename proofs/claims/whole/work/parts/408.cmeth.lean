/-! ===== the written methods of the class, behind k1 ===== -/
theorem c_move {h : Hp} {m l n ns N k L sg T r j : Nat} {w : UInt64} {κ : Nat → UInt64} (W : WT h m l n ns N k L sg T) (hr : IsR r) (hj : j < 4) (hrj : r ≠ 11 + 3 * j) (hr1 : r ≠ 1) (nw : Nm w) (hk : ∀ i, i < n → RV h (T + (11 + 3 * j)) i = κ i) (fk : ∀ i, i < n → Fn (κ i)) :
    ∃ h', f_X6_move T (some (T + r)) w (nI j) h = some ((), h') ∧ WT h' m l n ns N k L sg T ∧ Fr (Pd k L (T + r)) h h' ∧ ∀ i, i < n → RV h' (T + r) i = mvV (hpI h (m + 2) l) (RV h (T + 1)) w κ i := by
  have hn := wt_n W
  have hkj := isr_k hj
  have i1 : IsR 1 := Or.inl rfl
  obtain ⟨h', e, W', F', v, -⟩ := c_loop (fun fuel i hh => f_X6_move_3 fuel (some T) (some (T + r)) w (nI j) i hh) (res := fun hh => some ((), hh)) (a := 0) (b := n) (mvV (hpI h (m + 2) l) (RV h (T + 1)) w κ) W hr (by omega) hn (by
    intro fuel i hi _ hin Wi Fi
    have e0 : RV hi (T + (11 + 3 * j)) i = κ i := by rw [wt_RV W hr Fi hkj (Ne.symm hrj), hk i hin]
    have e1 : hpD hi (T + (11 + 3 * j) + 1) i = κ i := by rw [fn_num (by rw [e0]; exact fk i hin), e0]
    obtain ⟨f, e⟩ := c_arrive (h := hi) (i := i) Wi hr i1 (by omega) nw (ev_num (fk i hin).nm)
    refine ⟨f, ?_⟩
    rw [wt_nar W hr Fi, wt_RV W hr Fi i1 (Ne.symm hr1)] at e
    have Sf : ∀ f, ST (stI hi k 1 f) T k L := fun _ => Wi.2.1
    show f_X6_move_3 (fuel + 1) (some T) (some (T + r)) w (nI j) (nI i) hi = f_X6_move_3 fuel (some T) (some (T + r)) w (nI j) (nI (i + 1)) _
    rw [f_X6_move_3, st_g1 Wi.2.1, Option.bind_some, wt_gn Wi, Option.bind_some, if_neg (by rw [ni_le (by omega) (by omega)]; omega)]
    simp only [st_g0 Wi.2.1, Option.bind_some, rk_ck Wi.1.1, c_begin' Wi.1.1, bnd_some, st_g6 (Sf 0), st_g9 (Sf 0), st_k (Sf 0) hj, rw_g0 (st_r (Sf 0) hkj), rw_a0 (st_r (Sf 0) hkj) (show i < 6 by omega) (by omega), hpD_stI, e1, st_ck (Sf 0), e]
    rw [li1, ni_add]
    rfl) (fun i _ _ => cv_mvV _ _ _ _ _) (by
    intro fuel hi Wi
    show f_X6_move_3 (fuel + 1) (some T) (some (T + r)) w (nI j) (nI n) hi = _
    rw [f_X6_move_3, st_g1 Wi.2.1, Option.bind_some, wt_gn Wi, Option.bind_some, if_pos ((ni_le (by omega) (by omega)).mpr (Nat.le_refl _))])
  exact ⟨h', e, W', F', fun i hi => v i (by omega) hi⟩
/-- what the methods work on -/
def Pm (k L T a : Nat) : Prop := Pn k L a ∨ (T + 4 ≤ a ∧ a ≤ T + 9) ∨ (T + 14 ≤ a ∧ a ≤ T + 25) ∨ a = T
def CU (h0 h : Hp) (m l n ns N k L sg T : Nat) : Prop := WT h0 m l n ns N k L sg T ∧ WT h m l n ns N k L sg T ∧ Fr (Pm k L T) h0 h ∧ hpD h T = hpD h0 T ∧ hpI h T = hpI h0 T
def IsM (r : Nat) : Prop := r = 4 ∨ r = 7 ∨ r = 14 ∨ r = 17 ∨ r = 20 ∨ r = 23
theorem ism_r {r : Nat} (h : IsM r) : IsR r := by unfold IsM at h; unfold IsR; omega
theorem pm_bd {h : Hp} {m l n ns N k L sg T a : Nat} (W : WT h m l n ns N k L sg T) (b : Bd h m L sg ns a) : ¬ Pm k L T a := by
  rintro (p | p)
  · exact pn_bd W.1 b p
  · obtain ⟨t1, t2, t3, t4⟩ := W.2.2.2
    rcases b with b | b | ⟨s, S, hs, hS, b⟩
    · omega
    · omega
    · have := t4 s hs S hS; omega
theorem pm_row {h : Hp} {m l n ns N k L sg T r : Nat} (W : WT h m l n ns N k L sg T) (hr : r = 1 ∨ r = 11 ∨ r = 26) : ¬ Pm k L T (T + r + 1) ∧ ¬ Pm k L T (T + r + 2) := by
  have hR : IsR r := by unfold IsR; omega
  refine ⟨?_, ?_⟩
  · rintro (p | p)
    · exact (pd_n W hR (Or.inl rfl)).2 p
    · omega
  · rintro (p | p)
    · exact (pd_n W hR (Or.inr rfl)).2 p
    · omega
theorem cu_refl {h : Hp} {m l n ns N k L sg T : Nat} (W : WT h m l n ns N k L sg T) : CU h h m l n ns N k L sg T := ⟨W, W, Fr.refl _ h, rfl, rfl⟩
theorem cu_add {h0 h h' : Hp} {m l n ns N k L sg T r : Nat} (C : CU h0 h m l n ns N k L sg T) (hr : IsM r) (W' : WT h' m l n ns N k L sg T) (F : Fr (Pd k L (T + r)) h h') : CU h0 h' m l n ns N k L sg T := by
  refine ⟨C.1, W', C.2.2.1.trans (F.mono ?_), ?_, ?_⟩
  · unfold IsM at hr
    rintro a (p | p)
    · exact Or.inl p
    · right
      rcases p with e | e <;> omega
  · rw [wt_TD C.2.1 (ism_r hr) F]; exact C.2.2.2.1
  · rw [wt_TI C.2.1 (ism_r hr) F]; exact C.2.2.2.2
theorem cu_LE {h0 h : Hp} {m l n ns N k L sg T : Nat} (C : CU h0 h m l n ns N k L sg T) : LE h0 h m := fr_LE C.2.2.1 (fun _ h1 h2 => pm_bd C.1 (Or.inl ⟨h1, h2⟩))
theorem cu_fR {h0 h : Hp} {m l n ns N k L sg T : Nat} (C : CU h0 h m l n ns N k L sg T) : fR h m l N = fR h0 m l N := le_fR (cu_LE C)
theorem cu_nar {h0 h : Hp} {m l n ns N k L sg T : Nat} (C : CU h0 h m l n ns N k L sg T) : hpI h (m + 2) l = hpI h0 (m + 2) l := le_nar (cu_LE C)
theorem cu_x {h0 h : Hp} {m l n ns N k L sg T r : Nat} (C : CU h0 h m l n ns N k L sg T) (hr : r = 1 ∨ r = 11 ∨ r = 26) : RV h (T + r) = RV h0 (T + r) := fr_RV C.2.2.1 (pm_row C.1 hr).1 (pm_row C.1 hr).2
theorem cu_move (jj : Int32) {j : Nat} (ej : jj = nI j) {h0 h : Hp} {m l n ns N k L sg T r : Nat} {w : UInt64} {κ : Nat → UInt64} (C : CU h0 h m l n ns N k L sg T) (hr : r = 4 ∨ r = 7) (hj : j < 4) (nw : Nm w) (hk : ∀ i, i < n → RV h (T + (11 + 3 * j)) i = κ i) (fk : ∀ i, i < n → Fn (κ i)) :
    ∃ h', f_X6_move T (some (T + r)) w jj h = some ((), h') ∧ CU h0 h' m l n ns N k L sg T ∧ (∀ i, i < n → RV h' (T + r) i = mvV (hpI h0 (m + 2) l) (RV h0 (T + 1)) w κ i) ∧ ∀ q, IsR q → q ≠ r → RV h' (T + q) = RV h (T + q) := by
  have hm : IsM r := by unfold IsM; omega
  subst ej
  obtain ⟨h', e, W', F', v⟩ := c_move C.2.1 (ism_r hm) hj (by omega) (by omega) nw hk fk
  rw [cu_nar C, cu_x C (Or.inl rfl)] at v
  exact ⟨h', e, cu_add C hm W' F', v, fun q hq e => wt_RV C.2.1 (ism_r hm) F' hq e⟩
theorem cu_slope (jj : Int32) {j : Nat} (ej : jj = nI j) {h0 h : Hp} {m l n ns N k L sg T r : Nat} {t : UInt64} {y : Nat → UInt64} (C : CU h0 h m l n ns N k L sg T) (hr : r = 4 ∨ r = 7) (hj : 1 ≤ j ∧ j < 4) (nt : Nm t) (hy : ∀ i, i < n → RV h (T + r) i = y i) :
    ∃ w h', f_X6_slope T jj t (some (T + r)) h = some (w, h') ∧ CU h0 h' m l n ns N k L sg T ∧ (w = 0 ∨ w = 1) ∧ (w = 1 ↔ ∀ i, i < n → Fn (fR h0 m l N t y i)) ∧ (∀ i, i < n → RV h' (T + (11 + 3 * j)) i = fR h0 m l N t y i) ∧ ∀ q, IsR q → q ≠ 11 + 3 * j → RV h' (T + q) = RV h (T + q) := by
  have hm : IsM r := by unfold IsM; omega
  have hm2 : IsM (11 + 3 * j) := by unfold IsM; omega
  subst ej
  obtain ⟨w, h', e, W', F', w1, w2, v⟩ := c_slope (r := r) C.2.1 (ism_r hm) hj.2 (by omega) nt
  have q : ∀ i, i < n → fR h m l N t (RV h (T + r)) i = fR h0 m l N t y i := fun i hi => by
    rw [cu_fR C]; exact fR_dep C.1.1.2.2.1 hy i hi
  refine ⟨w, h', e, cu_add C hm2 W' F', w1, w2.trans ⟨fun z i hi => by rw [← q i hi]; exact z i hi, fun z i hi => by rw [q i hi]; exact z i hi⟩, fun i hi => by rw [v i hi, q i hi], fun q hq e => wt_RV C.2.1 (ism_r hm2) F' hq e⟩
theorem cu_loop {β : Type} (F : Nat → Int32 → Hp → Option β) {h0 h : Hp} {m l n ns N k L sg T r a b : Nat} {res : Hp → Option β} (val : Nat → UInt64) (C : CU h0 h m l n ns N k L sg T) (hr : IsM r) (ha : a ≤ b) (hb : b ≤ 6)
    (hstep : ∀ fuel i hi, a ≤ i → i < b → CU h0 hi m l n ns N k L sg T → (∀ q, IsR q → q ≠ r → RV hi (T + q) = RV h (T + q)) → ∃ f, F (fuel + 1) (nI i) hi = F fuel (nI (i + 1)) (wrV (stI hi k 1 f) (T + r) i (val i)))
    (hcv : ∀ i, a ≤ i → i < b → Cv (val i))
    (hend : ∀ fuel hi, WT hi m l n ns N k L sg T → F (fuel + 1) (nI b) hi = res hi) :
    ∃ h', F fuelN (nI a) h = res h' ∧ CU h0 h' m l n ns N k L sg T ∧ (∀ i, a ≤ i → i < b → RV h' (T + r) i = val i) ∧ (∀ i, (i < a ∨ b ≤ i) → RV h' (T + r) i = RV h (T + r) i) ∧ ∀ q, IsR q → q ≠ r → RV h' (T + q) = RV h (T + q) := by
  obtain ⟨h', e, W', F', v1, v2⟩ := c_loop F val C.2.1 (ism_r hr) ha hb (fun fuel i hi h1 h2 Wi Fi => hstep fuel i hi h1 h2 (cu_add C hr Wi Fi) (fun q hq e => wt_RV C.2.1 (ism_r hr) Fi hq e)) hcv hend
  exact ⟨h', e, cu_add C hr W' F', v1, v2, fun q hq e => wt_RV C.2.1 (ism_r hr) F' hq e⟩
/-- what a method leaves -/
def MQc (h h' : Hp) (w : Int32) (m l n ns N k L sg T M : Nat) (t hf : UInt64) : Prop :=
  WT h' m l n ns N k L sg T ∧ Fr (Pm k L T) h h' ∧ hpD h' T = hpD h T ∧ hpI h' T 2 = hpI h T 2 ∧ (w = 0 ∨ w = 1) ∧
  (w = 1 ↔ (∀ j, j < sgN M → ∀ i, i < n → Fn (kS (fR h m l N) (hpI h (m + 2) l) n M t hf (RV h (T + 1)) j i)) ∧ (M = 5 → ∀ j, j < 6 → ∀ i, i < n → Fn (fR h m l N (FP.dadd t hf) (zB (fR h m l N) (hpI h (m + 2) l) t hf (RV h (T + 1)) j) i)) ∧ (M = 4 → ∀ i, i < n → Fn (eP (fR h m l N) (hpI h (m + 2) l) t hf (RV h (T + 1)) i))) ∧
  (w = 1 → (∀ j, j < sgN M → ∀ i, i < n → RV h' (T + (11 + 3 * j)) i = kS (fR h m l N) (hpI h (m + 2) l) n M t hf (RV h (T + 1)) j i) ∧ (∀ i, i < n → RV h' (T + 7) i = zS (fR h m l N) (hpI h (m + 2) l) n M t hf (RV h (T + 1)) i) ∧ (M = 4 → ∀ i, i < n → RV h' (T + 23) i = eP (fR h m l N) (hpI h (m + 2) l) t hf (RV h (T + 1)) i) ∧ hpI h' T 13 = nI (gS (fR h m l N) (hpI h (m + 2) l) n M t hf (RV h (T + 1))))
/-- the step's fields are there, k1 is there -/
def MS (h : Hp) (m l n ns N k L sg T : Nat) (t hf : UInt64) : Prop := WT h m l n ns N k L sg T ∧ hpD h T 3 = t ∧ hpD h T 4 = hf ∧ hpI h T 13 = 0 ∧ Nm t ∧ HB hf ∧ (∀ i, i < n → RV h (T + 11) i = fR h m l N t (RV h (T + 1)) i) ∧ ∀ i, i < n → Fn (fR h m l N t (RV h (T + 1)) i)
/-- the method breaks off -/
theorem mq_no {h h' : Hp} {m l n ns N k L sg T M : Nat} {t hf : UInt64} (C : CU h h' m l n ns N k L sg T) (no : ¬ ((∀ j, j < sgN M → ∀ i, i < n → Fn (kS (fR h m l N) (hpI h (m + 2) l) n M t hf (RV h (T + 1)) j i)) ∧ (M = 5 → ∀ j, j < 6 → ∀ i, i < n → Fn (fR h m l N (FP.dadd t hf) (zB (fR h m l N) (hpI h (m + 2) l) t hf (RV h (T + 1)) j) i)) ∧ (M = 4 → ∀ i, i < n → Fn (eP (fR h m l N) (hpI h (m + 2) l) t hf (RV h (T + 1)) i)))) : MQc h h' 0 m l n ns N k L sg T M t hf :=
  ⟨C.2.1, C.2.2.1, C.2.2.2.1, by rw [C.2.2.2.2], Or.inl rfl, ⟨fun z => absurd z (by decide), fun z => absurd z no⟩, fun z => absurd z (by decide)⟩
theorem w_ne {w : Int32} (h : w = 0 ∨ w = 1) (z : ¬ w = 0) : w = 1 := h.resolve_left z
theorem c_middle {h : Hp} {m l n ns N k L sg T : Nat} {t hf : UInt64} (M0 : MS h m l n ns N k L sg T t hf) : ∃ w h', f_X6_middle T h = some (w, h') ∧ MQc h h' w m l n ns N k L sg T 1 t hf := by
  obtain ⟨W, et, eh, eg, nt, fh, hk, fk⟩ := M0
  have C := cu_refl W
  have ng : Nm (FP.ddiv hf 4611686018427387904) := (fn_half fh).nm
  obtain ⟨h1, e1, C1, v1, o1⟩ := cu_move 0 rfl (r := 4) (j := 0) C (Or.inl rfl) (by omega) ng hk fk
  have n1 : Nm (FP.dadd t (FP.ddiv hf 4611686018427387904)) := add_nm2 nt (fn_half fh)
  obtain ⟨w, h2, e2, C2, w01, w1, v2, o2⟩ := cu_slope 1 rfl (r := 4) (j := 1) C1 (Or.inl rfl) (by omega) n1 v1
  have S1 := C1.2.1.2.1
  have S2 := C2.2.1.2.1
  unfold f_X6_middle
  rw [st_gd W.2.1, Option.bind_some, eh, fop_ok ng, Option.bind_some, st_g7 W.2.1, Option.bind_some, st_ck W.2.1, Option.bind_some, e1, bnd_some, st_gd S1, Option.bind_some, C1.2.2.2.1, et, fop_ok n1, Option.bind_some, st_g7 S1, Option.bind_some, st_ck S1, Option.bind_some, e2, bnd_some]
  by_cases z : w = 0
  · rw [if_neg (fun q => q z), if_pos (by decide)]
    exact ⟨0, h2, rfl, mq_no C2 (fun q => absurd (w1.mpr (q.1 1 (by decide))) (by rw [z]; decide))⟩
  · have f2 := w1.mp (w_ne w01 z)
    obtain ⟨h3, e3, C3, v3, o3⟩ := cu_move 1 rfl (r := 7) (j := 1) C2 (Or.inr rfl) (by omega) fh.fn.nm v2 f2
    have k0 : RV h3 (T + 11) = RV h (T + 11) := cu_x C3 (by omega)
    have k1 : RV h3 (T + 14) = RV h2 (T + 14) := o3 14 (by unfold IsR; omega) (by omega)
    rw [if_pos z, st_g8 S2, Option.bind_some, st_gd S2, Option.bind_some, C2.2.2.2.1, eh, st_ck S2, Option.bind_some, e3, bnd_some, if_pos (by decide)]
    refine ⟨1, h3, rfl, C3.2.1, C3.2.2.1, C3.2.2.2.1, by rw [C3.2.2.2.2], Or.inr rfl, ⟨fun _ => ⟨fun j hj i hi => ?_, fun q => absurd q (by decide), fun q => absurd q (by decide)⟩, fun _ => rfl⟩, fun _ => ⟨fun j hj i hi => ?_, v3, fun q => absurd q (by decide), by rw [C3.2.2.2.2, eg]; rfl⟩⟩
    · have : j < 2 := hj
      rcases (by omega : j = 0 ∨ j = 1) with rfl | rfl
      · exact fk i hi
      · exact f2 i hi
    · have : j < 2 := hj
      rcases (by omega : j = 0 ∨ j = 1) with rfl | rfl
      · show RV h3 (T + 11) i = _; rw [k0]; exact hk i hi
      · show RV h3 (T + 14) i = _; rw [k1]; exact v2 i hi
