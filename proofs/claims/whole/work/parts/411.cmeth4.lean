/-! ===== BACKWARD and LEAP of the class ===== -/
theorem wt_cp {h : Hp} {m l n ns N k L sg T r s : Nat} (W : WT h m l n ns N k L sg T) (hr : IsR r) (hs : IsR s) (e : r ≠ s) : f_X3_copy (T + r) (some (T + s)) h = some ((), cpV h (T + r) (T + s) 6) ∧ WT (cpV h (T + r) (T + s) 6) m l n ns N k L sg T ∧ Fr (Pd k L (T + r)) h (cpV h (T + r) (T + s) 6) := by
  have G : Fr (Pd k L (T + r)) h (cpV h (T + r) (T + s) 6) := fr_cpV (Fr.refl _ h) (Or.inr (Or.inl rfl)) (Or.inr (Or.inr rfl))
  have a1 := (pd_n W hr (Or.inl rfl)).2
  have a2 := (pd_n W hr (Or.inr rfl)).2
  have k1 : k ≠ T + r + 1 := fun z => a1 (Or.inl z.symm)
  have l7 : L + 6 + 1 ≠ T + r + 1 := fun z => a1 (Or.inr (Or.inl (by omega)))
  have l8 : L + 6 + 2 ≠ T + r + 2 := fun z => a2 (Or.inr (Or.inr (by omega)))
  refine ⟨c_copy (st_r W.2.1 hr) (st_r W.2.1 hs) (by omega) (W.2.2.1 s hs) (by omega) (by omega), wt_fr W hr G ⟨W.1.1.1, by rw [cpV_D k1]; exact W.1.1.2⟩ (fun j hj => by rw [cpV_D l7, cpV_I l8]; exact W.1.2.2.2.2.2.1 j hj) (RN_cpV (W.2.2.1 s hs)), G⟩
theorem cu_copy {h0 h : Hp} {m l n ns N k L sg T r s : Nat} (C : CU h0 h m l n ns N k L sg T) (hr : IsM r) (hs : IsR s) (e : r ≠ s) : ∃ h', f_X3_copy (T + r) (some (T + s)) h = some ((), h') ∧ CU h0 h' m l n ns N k L sg T ∧ (∀ i, i < 6 → RV h' (T + r) i = RV h (T + s) i) ∧ ∀ q, IsR q → q ≠ r → RV h' (T + q) = RV h (T + q) := by
  obtain ⟨e1, W', F'⟩ := wt_cp C.2.1 (ism_r hr) hs e
  exact ⟨_, e1, cu_add C hr W' F', fun i hi => RV_cpV hi, fun q hq e => wt_RV C.2.1 (ism_r hr) F' hq e⟩
/-- a field of the step's own object -/
theorem fr_Tf {h : Hp} {T j : Nat} {v : Int32} : Fr (fun a => a = T) h (stI h T j v) := fr_stI (Fr.refl _ h) rfl
theorem wt_T {h : Hp} {m l n ns N k L sg T j : Nat} {v : Int32} (W : WT h m l n ns N k L sg T) : WT (stI h T j v) m l n ns N k L sg T := by
  obtain ⟨t1, t2, t3, t4⟩ := W.2.2.2
  have pL := W.1.2.2.2.2.2.2.2
  refine ⟨en_fr W.1 fr_Tf (fun a b e => ?_) W.1.1 (fr_RN (fr_Tf (j := j) (v := v)) (by omega) (by omega) W.1.2.2.2.2.2.1), W.2.1, fun r hr => fr_RN (fr_Tf (j := j) (v := v)) (by have := isr_le hr; omega) (by have := isr_le hr; omega) (W.2.2.1 r hr), W.2.2.2⟩
  subst e
  rcases b with b | b | ⟨s, S, hs, hS, b⟩
  · omega
  · omega
  · have := t4 s hs S hS; omega
theorem rv_T {h : Hp} {T r j : Nat} {v : Int32} (hr : IsR r) : RV (stI h T j v) (T + r) = RV h (T + r) := fr_RV (fr_Tf (j := j) (v := v)) (by have := isr_le hr; omega) (by have := isr_le hr; omega)
theorem le_T {h : Hp} {m l n ns N k L sg T j : Nat} {v : Int32} (W : WT h m l n ns N k L sg T) : LE h (stI h T j v) m := fr_LE fr_Tf (fun a h1 h2 e => by have := W.2.2.2.2.1; omega)
theorem cu_T {h0 h : Hp} {m l n ns N k L sg T : Nat} {g g' : Int32} (W0 : WT h0 m l n ns N k L sg T) (C : CU (stI h0 T 13 g) h m l n ns N k L sg T) : CU (stI h0 T 13 g') (stI h T 13 g') m l n ns N k L sg T := by
  refine ⟨wt_T W0, wt_T C.2.1, ⟨C.2.2.1.1, C.2.2.1.2.1, C.2.2.1.2.2.1, fun a ha => ?_⟩, C.2.2.2.1, ?_⟩
  · have := C.2.2.1.2.2.2 a ha
    have hT : a ≠ T := fun e => ha (by rw [e]; exact Or.inr (Or.inr (Or.inr rfl)))
    rw [hpI_stI_row hT] at this
    rw [hpI_stI_row hT, hpI_stI_row hT]
    exact this
  · funext j
    have q := C.2.2.2.2
    have q2 := congrFun q j
    by_cases e : j = 13
    · subst e; rw [hpI_stI_self, hpI_stI_self]
    · rw [hpI_stI_ne (Or.inr e)] at q2
      rw [hpI_stI_ne (Or.inr e), hpI_stI_ne (Or.inr e), q2]
theorem cl_sym {a b : UInt64} : cl a b = 0 ↔ cl b a = 0 := by
  rw [cl_eq, cl_eq]; exact ⟨fun h => ⟨⟨h.1.2, h.1.1⟩, h.2.symm⟩, fun h => ⟨⟨h.1.2, h.1.1⟩, h.2.symm⟩⟩
theorem c_unlikeCount {h : Hp} {m l n ns N k L sg T : Nat} (W : WT h m l n ns N k L sg T) : f_X6_unlikeCount T h = some (nI (gpS (RV h (T + 7)) (RV h (T + 4)) n), h) := by
  have hn := wt_n W
  have S := W.2.1
  have key : ∀ (d i fuel : Nat), i + d = n → d < fuel → f_X6_unlikeCount_4 fuel (some T) (nI (gpS (RV h (T + 7)) (RV h (T + 4)) i)) (nI i) h = some (nI (gpS (RV h (T + 7)) (RV h (T + 4)) n), h) := by
    intro d
    induction d with
    | zero =>
      intro i fuel hi hf
      obtain ⟨fuel, rfl⟩ : ∃ j, fuel = j + 1 := ⟨fuel - 1, by omega⟩
      have : i = n := by omega
      subst this
      rw [f_X6_unlikeCount_4, st_g1 S, Option.bind_some, wt_gn W, Option.bind_some, if_pos ((ni_le (by omega) (by omega)).mpr (Nat.le_refl _))]
    | succ d ih =>
      intro i fuel hi hf
      obtain ⟨fuel, rfl⟩ : ∃ j, fuel = j + 1 := ⟨fuel - 1, by omega⟩
      have ih' := ih (i + 1) fuel (by omega) (by omega)
      have i6 : i < 6 := by omega
      have R4 := st_r S i4
      have R7 := st_r S i7
      obtain ⟨x4, f4⟩ := W.2.2.1 4 i4 i i6
      obtain ⟨x7, f7⟩ := W.2.2.1 7 i7 i i6
      have no : ¬ cl (RV h (T + 7) i) (RV h (T + 4) i) = 0 → f_X6_unlikeCount_61 (f_X6_unlikeCount_4 fuel) (some T) (nI (gpS (RV h (T + 7)) (RV h (T + 4)) i)) (nI i) h = some (nI (gpS (RV h (T + 7)) (RV h (T + 4)) n), h) := fun q => by
        unfold f_X6_unlikeCount_61 f_X6_unlikeCount_64
        rw [gpS, if_neg q] at ih'
        rw [li1, ni_add, ni_add]
        exact ih'
      have nan : ∀ v : UInt64, ¬ cl nanV v = 0 ∧ ¬ cl v nanV = 0 := fun v => ⟨fun q => nm_nanV (cl_eq.mp q).1.1, fun q => nm_nanV (cl_eq.mp q).1.2⟩
      rw [f_X6_unlikeCount_4, st_g1 S, Option.bind_some, wt_gn W, Option.bind_some, if_neg (by rw [ni_le (by omega) (by omega)]; omega)]
      simp only [st_g7 S, st_g8 S, Option.bind_some, rw_g1 R4, rw_g1 R7, rw_g0 R4, rw_g0 R7, rw_a1 R4 i6 (by omega), rw_a1 R7 i6 (by omega), rw_a0 R4 i6 (by omega), rw_a0 R7 i6 (by omega)]
      by_cases q4 : hpI h (T + 4 + 2) i = 0
      · rw [if_neg (fun z => z q4)]
        by_cases q7 : hpI h (T + 7 + 2) i = 0
        · rw [if_neg (fun z => z q7)]
          have v4 : RV h (T + 4) i = hpD h (T + 4 + 1) i := by unfold RV; rw [if_pos q4]
          have v7 : RV h (T + 7) i = hpD h (T + 7 + 1) i := by unfold RV; rw [if_pos q7]
          by_cases q : cl (hpD h (T + 4 + 1) i) (hpD h (T + 7 + 1) i) = 0
          · rw [if_pos q]
            unfold f_X6_unlikeCount_64
            rw [gpS, v4, v7, if_pos (cl_sym.mp q)] at ih'
            rw [li1, ni_add]
            exact ih'
          · rw [if_neg q]
            exact no (by rw [v4, v7]; exact fun z => q (cl_sym.mp z))
        · rw [if_pos q7]
          have v7 : RV h (T + 7) i = nanV := by unfold RV; rw [if_neg q7]
          exact no (by rw [v7]; exact (nan _).1)
      · rw [if_pos q4]
        have v4 : RV h (T + 4) i = nanV := by unfold RV; rw [if_neg q4]
        exact no (by rw [v4]; exact (nan _).2)
  unfold f_X6_unlikeCount
  exact key n 0 fuelN (by omega) (by unfold fuelN; omega)
theorem c_backward {h : Hp} {m l n ns N k L sg T : Nat} {t hf : UInt64} (M0 : MS h m l n ns N k L sg T t hf) : ∃ w h', f_X6_backward T h = some (w, h') ∧ MQc h h' w m l n ns N k L sg T 5 t hf := by
  obtain ⟨W, et, eh, eg, nt, fh, hk, fk⟩ := M0
  have hn := wt_n W
  have n2 : Nm (FP.dadd t hf) := add_nm2 nt fh.fn
  have g0 : stI h T 13 0 = h := by rw [← eg]; exact stI_self h T 13
  have C : CU (stI h T 13 0) h m l n ns N k L sg T := by rw [g0]; exact cu_refl W
  obtain ⟨h1, e1, C1, v1, o1⟩ := cu_move 0 rfl (r := 4) (j := 0) C (Or.inl rfl) (by omega) fh.fn.nm hk fk
  unfold f_X6_backward
  rw [st_g7 W.2.1, Option.bind_some, st_gd W.2.1, Option.bind_some, eh, st_ck W.2.1, Option.bind_some, e1, bnd_some]
  have bF : ∀ g, fR (stI h T 13 g) m l N = fR h m l N := fun g => le_fR (le_T W)
  have bn : ∀ g, hpI (stI h T 13 g) (m + 2) l = hpI h (m + 2) l := fun g => le_nar (le_T W)
  have bx : ∀ g, RV (stI h T 13 g) (T + 1) = RV h (T + 1) := fun g => rv_T i1
  have frT : ∀ g h', Fr (Pm k L T) (stI h T 13 g) h' → Fr (Pm k L T) h h' := fun g h' F => Fr.trans (fr_stI (Fr.refl _ h) (Or.inr (Or.inr (Or.inr rfl)))) F
  have key : ∀ (d τ fuel : Nat) (hi : Hp) (g : Int32), τ + d = 6 → d < fuel → CU (stI h T 13 g) hi m l n ns N k L sg T → (∀ i, i < n → RV hi (T + 4) i = zB (fR h m l N) (hpI h (m + 2) l) t hf (RV h (T + 1)) τ i) → (∀ q, q < τ → ∀ i, i < n → Fn (fR h m l N (FP.dadd t hf) (zB (fR h m l N) (hpI h (m + 2) l) t hf (RV h (T + 1)) q) i)) → (∀ τ', τ = τ' + 1 → (∀ i, i < n → RV hi (T + 7) i = zB (fR h m l N) (hpI h (m + 2) l) t hf (RV h (T + 1)) τ i) ∧ (∀ i, i < n → RV hi (T + 14) i = fR h m l N (FP.dadd t hf) (zB (fR h m l N) (hpI h (m + 2) l) t hf (RV h (T + 1)) τ') i) ∧ g = nI (gpS (zB (fR h m l N) (hpI h (m + 2) l) t hf (RV h (T + 1)) τ) (zB (fR h m l N) (hpI h (m + 2) l) t hf (RV h (T + 1)) τ') n)) →
      ∃ w h', f_X6_backward_15 fuel (some T) (nI τ) hi = some (w, h') ∧ MQc h h' w m l n ns N k L sg T 5 t hf := by
    intro d
    induction d with
    | zero =>
      intro τ fuel hi g hτ hfu Ci vy ff vz
      obtain ⟨fuel, rfl⟩ : ∃ j, fuel = j + 1 := ⟨fuel - 1, by omega⟩
      have : τ = 6 := by omega
      subst this
      obtain ⟨z1, z2, z3⟩ := vz 5 rfl
      rw [f_X6_backward_15, if_pos (by decide), if_pos (by decide)]
      refine ⟨1, hi, rfl, Ci.2.1, frT g hi Ci.2.2.1, Ci.2.2.2.1, by rw [Ci.2.2.2.2, hpI_stI_ne (Or.inr (by omega))], Or.inr rfl, ⟨fun _ => ⟨fun j hj i hi' => ?_, fun _ => ff, fun q => absurd q (by decide)⟩, fun _ => rfl⟩, fun _ => ⟨fun j hj i hi' => ?_, z1, fun q => absurd q (by decide), by rw [Ci.2.2.2.2, hpI_stI_self, z3]; rfl⟩⟩
      · have : j < 2 := hj
        rcases (by omega : j = 0 ∨ j = 1) with rfl | rfl
        · exact fk i hi'
        · exact ff 5 (by omega) i hi'
      · have : j < 2 := hj
        rcases (by omega : j = 0 ∨ j = 1) with rfl | rfl
        · show RV hi (T + 11) i = _
          rw [cu_x Ci (by omega), rv_T i11]; exact hk i hi'
        · exact z2 i hi'
    | succ d ih =>
      intro τ fuel hi g hτ hfu Ci vy ff vz
      obtain ⟨fuel, rfl⟩ : ∃ j, fuel = j + 1 := ⟨fuel - 1, by omega⟩
      have Si := Ci.2.1.2.1
      obtain ⟨w, h2, e2, C2, w01, w1, v2, o2⟩ := cu_slope 1 rfl (r := 4) (j := 1) Ci (Or.inl rfl) (by omega) n2 vy
      rw [bF g] at w1 v2
      have S2 := C2.2.1.2.1
      have di : hpD hi T 3 = t ∧ hpD hi T 4 = hf := by rw [Ci.2.2.2.1]; exact ⟨et, eh⟩
      have d2 : hpD h2 T 4 = hf := by rw [C2.2.2.2.1]; exact eh
      rw [f_X6_backward_15, if_neg (by rw [li6, ni_le (by omega) (by omega)]; omega), st_gd Si, Option.bind_some, st_gd Si, Option.bind_some, di.1, di.2, fop_ok n2, Option.bind_some, st_g7 Si, Option.bind_some, st_ck Si, Option.bind_some, e2, bnd_some]
      by_cases z : w = 0
      · rw [if_neg (fun q => q z), if_pos (by decide)]
        refine ⟨0, h2, rfl, C2.2.1, frT g h2 C2.2.2.1, C2.2.2.2.1, by rw [C2.2.2.2.2, hpI_stI_ne (Or.inr (by omega))], Or.inl rfl, ⟨fun q => absurd q (by decide), fun q => ?_⟩, fun q => absurd q (by decide)⟩
        exact absurd (w1.mpr (q.2.1 rfl τ (by omega))) (by rw [z]; decide)
      · have f2 := w1.mp (w_ne w01 z)
        obtain ⟨h3, e3, C3, v3, o3⟩ := cu_move 1 rfl (r := 7) (j := 1) C2 (Or.inr rfl) (by omega) fh.fn.nm v2 f2
        rw [bn g, bx g] at v3
        have S3 := C3.2.1.2.1
        have u3 := c_unlikeCount C3.2.1
        have k3 : RV h3 (T + 14) = RV h2 (T + 14) := o3 14 i14 (by omega)
        have y3 : RV h3 (T + 4) = RV hi (T + 4) := by rw [o3 4 i4 (by omega), o2 4 i4 (by omega)]
        have gE : gpS (RV h3 (T + 7)) (RV h3 (T + 4)) n = gpS (zB (fR h m l N) (hpI h (m + 2) l) t hf (RV h (T + 1)) (τ + 1)) (zB (fR h m l N) (hpI h (m + 2) l) t hf (RV h (T + 1)) τ) n := gpS_congr v3 (fun i hi' => by rw [y3]; exact vy i hi')
        have C4 := cu_T (g' := nI (gpS (RV h3 (T + 7)) (RV h3 (T + 4)) n)) W C3
        have S4 := C4.2.1.2.1
        obtain ⟨h5, e5, C5, v5, o5⟩ := cu_copy (r := 4) (s := 7) C4 m4 i7 (by omega)
        have z5 : ∀ i, i < n → RV h5 (T + 7) i = zB (fR h m l N) (hpI h (m + 2) l) t hf (RV h (T + 1)) (τ + 1) i := fun i hi' => by rw [o5 7 i7 (by omega), rv_T i7]; exact v3 i hi'
        obtain ⟨w', h', e', Q⟩ := ih (τ + 1) fuel h5 _ (by omega) (by omega) C5 (fun i hi' => by rw [v5 i (by omega), rv_T i7]; exact v3 i hi') (fun q hq i hi' => by
          by_cases e : q = τ
          · rw [e]; exact f2 i hi'
          · exact ff q (by omega) i hi') (fun τ' hτ' => by
          have : τ' = τ := by omega
          subst this
          exact ⟨z5, fun i hi' => by rw [o5 14 i14 (by omega), rv_T i14, k3]; exact v2 i hi', by rw [gE]⟩)
        refine ⟨w', h', ?_, Q⟩
        rw [if_pos z, st_g8 S2, Option.bind_some, st_gd S2, Option.bind_some, d2, st_ck S2, Option.bind_some, e3, bnd_some, st_ck S3, Option.bind_some, u3, bnd_some, putI_ok S3.1, Option.bind_some, st_g7 S4, Option.bind_some, st_g8 S4, Option.bind_some, rw_ck (st_r S4 i4), Option.bind_some, e5, bnd_some, li1, ni_add]
        exact e'
  exact key 6 0 fuelN h1 0 (by omega) (by unfold fuelN; omega) C1 (fun i hi => by have := v1 i hi; rw [bn, bx] at this; exact this) (fun q hq => by omega) (fun τ' hτ' => by omega)
theorem c_leap {h : Hp} {m l n ns N k L sg T : Nat} {t hf : UInt64} (M0 : MS h m l n ns N k L sg T t hf) : ∃ w h', f_X6_leap T h = some (w, h') ∧ MQc h h' w m l n ns N k L sg T 6 t hf := by
  obtain ⟨W, et, eh, eg, nt, fh, hk, fk⟩ := M0
  have hn := wt_n W
  have C := cu_refl W
  have ng : Nm (FP.ddiv hf 4611686018427387904) := (fn_half fh).nm
  have n1 : Nm (FP.dadd t (FP.ddiv hf 4611686018427387904)) := add_nm2 nt (fn_half fh)
  have n2 : Nm (FP.dadd t hf) := add_nm2 nt fh.fn
  obtain ⟨h1, e1, C1, v1, o1⟩ := cu_copy (r := 4) (s := 1) C m4 i1 (by omega)
  have S1 := C1.2.1.2.1
  unfold f_X6_leap
  rw [st_gd W.2.1, Option.bind_some, eh, fop_ok ng, Option.bind_some, st_g1 W.2.1, Option.bind_some, wt_gn W, Option.bind_some, st_g7 W.2.1, Option.bind_some, st_g6 W.2.1, Option.bind_some, rw_ck (st_r W.2.1 i4), Option.bind_some, e1, bnd_some, ni_half hn]
  -- the speeds of y
  obtain ⟨h2, e2, C2, v2, v2', o2⟩ := cu_loop (fun fuel i hh => f_X6_leap_33 fuel (some T) (FP.ddiv hf 4611686018427387904) (nI (n / 2)) i hh) (res := fun hh => (getD hh (some T) 6 3).bind fun x4 =>
      (fop (FP.dadd x4 (FP.ddiv hf 4611686018427387904))).bind fun x5 =>
      (getR hh (some T) 6 7).bind fun x6 =>
      (ab_ck hh (some T) (6, 0)).bind fun a10 =>
      bnd (f_X6_slope a10 1 x5 x6 hh) fun x7 h8 =>
      if ¬ x7 = 0 then
        (getR h8 (some T) 6 8).bind fun x13 =>
        (getR h8 (some T) 6 7).bind fun x14 =>
        (ab_ck h8 x13 (3, 0)).bind fun a18 =>
        bnd (f_X3_copy a18 x14 h8) fun _ h16 =>
        f_X6_leap_119 fuelN (some T) (FP.ddiv hf 4611686018427387904) (nI (n / 2)) 0 h16
      else
        if 0 = 0 ∨ 0 = 1 then some (0, h8) else none) (a := n / 2) (b := n) (mvV (hpI h (m + 2) l) (RV h (T + 1)) (FP.ddiv hf c2) (fR h m l N t (RV h (T + 1)))) C1 m4 (by omega) hn (by
    intro fuel i hi _ hin Ci oi
    have Wi := Ci.2.1
    have a0 : hpD hi (T + 11 + 1) i = fR h m l N t (RV h (T + 1)) i := kn_of (h := h) (cu_x Ci (by omega)) (hk i hin) (fk i hin)
    obtain ⟨f, e⟩ := c_arrive (h := hi) (i := i) (r := 4) (s := 1) Wi i4 i1 (by omega) ng (ev_num (fk i hin).nm)
    refine ⟨f, ?_⟩
    rw [cu_nar Ci, cu_x Ci (Or.inl rfl)] at e
    show f_X6_leap_33 (fuel + 1) (some T) (FP.ddiv hf 4611686018427387904) (nI (n / 2)) (nI i) hi = f_X6_leap_33 fuel (some T) (FP.ddiv hf 4611686018427387904) (nI (n / 2)) (nI (i + 1)) _
    rw [f_X6_leap_33, st_g1 Wi.2.1, Option.bind_some, wt_gn Wi, Option.bind_some, if_neg (by rw [ni_le (by omega) (by omega)]; omega)]
    simp only [st_g0 Wi.2.1, Option.bind_some, rk_ck Wi.1.1, c_begin' Wi.1.1, bnd_some, wl_g7 Wi, wl_g6 Wi, wl_g9 Wi, wl_k0 Wi, wl_r Wi i11, wl_d Wi i11 (show i < 6 by omega), a0, wl_tc Wi, e]
    rw [li1, ni_add, mvV]) (fun i _ _ => cv_mvV _ _ _ _ _) (by
    intro fuel hi Wi
    show f_X6_leap_33 (fuel + 1) (some T) (FP.ddiv hf 4611686018427387904) (nI (n / 2)) (nI n) hi = _
    rw [f_X6_leap_33, st_g1 Wi.2.1, Option.bind_some, wt_gn Wi, Option.bind_some, if_pos ((ni_le (by omega) (by omega)).mpr (Nat.le_refl _))])
  have e2' : f_X6_leap_33 fuelN (some T) (FP.ddiv hf 4611686018427387904) (nI (n / 2)) (nI (n / 2)) h1 = _ := e2
  rw [e2']
  have S2 := C2.2.1.2.1
  have y2 : ∀ i, i < n → RV h2 (T + 4) i = yL (fR h m l N) (hpI h (m + 2) l) n t hf (RV h (T + 1)) i := fun i hi => by
    unfold yL
    by_cases q : i < n / 2
    · rw [if_pos q, v2' i (Or.inl q), v1 i (by omega)]
    · rw [if_neg q, v2 i (by omega) hi]
  obtain ⟨w, h3, e3, C3, w01, w1, v3, o3⟩ := cu_slope 1 rfl (r := 4) (j := 1) C2 (Or.inl rfl) (by omega) n1 y2
  have S3 := C3.2.1.2.1
  rw [st_gd S2, Option.bind_some, C2.2.2.2.1, et, fop_ok n1, Option.bind_some, st_g7 S2, Option.bind_some, st_ck S2, Option.bind_some, e3, bnd_some]
  by_cases z : w = 0
  · rw [if_neg (fun q => q z), if_pos (by decide)]
    exact ⟨0, h3, rfl, mq_no C3 (fun q => absurd (w1.mpr (q.1 1 (by decide))) (by rw [z]; decide))⟩
  have f3 := w1.mp (w_ne w01 z)
  obtain ⟨h4, e4, C4, v4, o4⟩ := cu_copy (r := 7) (s := 4) C3 m7 i4 (by omega)
  have S4 := C4.2.1.2.1
  rw [if_pos z, st_g8 S3, Option.bind_some, st_g7 S3, Option.bind_some, rw_ck (st_r S3 i7), Option.bind_some, e4, bnd_some]
  have k1 : ∀ i, i < n → RV h4 (T + 14) i = k2L (fR h m l N) (hpI h (m + 2) l) n t hf (RV h (T + 1)) i := fun i hi => by rw [o4 14 i14 (by omega)]; exact v3 i hi
  have f3' : ∀ i, i < n → Fn (k2L (fR h m l N) (hpI h (m + 2) l) n t hf (RV h (T + 1)) i) := f3
  -- the places of z
  obtain ⟨h5, e5, C5, v5, v5', o5⟩ := cu_loop (fun fuel i hh => f_X6_leap_119 fuel (some T) (FP.ddiv hf 4611686018427387904) (nI (n / 2)) i hh) (res := fun hh => (getD hh (some T) 6 3).bind fun x2 =>
      (getD hh (some T) 6 4).bind fun x3 =>
      (fop (FP.dadd x2 x3)).bind fun x4 =>
      (getR hh (some T) 6 8).bind fun x5 =>
      (ab_ck hh (some T) (6, 0)).bind fun a9 =>
      bnd (f_X6_slope a9 2 x4 x5 hh) fun x6 h7 =>
      if ¬ x6 = 0 then
        f_X6_leap_194 fuelN (some T) (FP.ddiv hf 4611686018427387904) (nI (n / 2)) h7
      else
        if 0 = 0 ∨ 0 = 1 then some (0, h7) else none) (a := 0) (b := n / 2) (mvV (hpI h (m + 2) l) (RV h (T + 1)) hf (k2L (fR h m l N) (hpI h (m + 2) l) n t hf (RV h (T + 1)))) C4 m7 (by omega) (by omega) (by
    intro fuel i hi _ hin Ci oi
    have Wi := Ci.2.1
    have a1 : hpD hi (T + 14 + 1) i = k2L (fR h m l N) (hpI h (m + 2) l) n t hf (RV h (T + 1)) i := kn_of (oi 14 i14 (by omega)) (k1 i (by omega)) (f3' i (by omega))
    obtain ⟨f, e⟩ := c_arrive (h := hi) (i := i) (r := 7) (s := 1) Wi i7 i1 (by omega) fh.fn.nm (ev_num (f3' i (by omega)).nm)
    refine ⟨f, ?_⟩
    rw [cu_nar Ci, cu_x Ci (Or.inl rfl)] at e
    have d4 : hpD hi T 4 = hf := by rw [Ci.2.2.2.1, eh]
    show f_X6_leap_119 (fuel + 1) (some T) (FP.ddiv hf 4611686018427387904) (nI (n / 2)) (nI i) hi = f_X6_leap_119 fuel (some T) (FP.ddiv hf 4611686018427387904) (nI (n / 2)) (nI (i + 1)) _
    rw [f_X6_leap_119, if_neg (by rw [ni_le (by omega) (by omega)]; omega)]
    simp only [st_g0 Wi.2.1, Option.bind_some, rk_ck Wi.1.1, c_begin' Wi.1.1, bnd_some, wl_g8 Wi, wl_g6 Wi, wl_gd Wi, d4, wl_g9 Wi, wl_k1 Wi, wl_r Wi i14, wl_d Wi i14 (show i < 6 by omega), a1, wl_tc Wi, e]
    rw [li1, ni_add, mvV]) (fun i _ _ => cv_mvV _ _ _ _ _) (by
    intro fuel hi Wi
    show f_X6_leap_119 (fuel + 1) (some T) (FP.ddiv hf 4611686018427387904) (nI (n / 2)) (nI (n / 2)) hi = _
    rw [f_X6_leap_119, if_pos ((ni_le (by omega) (by omega)).mpr (Nat.le_refl _))])
  have e5' : f_X6_leap_119 fuelN (some T) (FP.ddiv hf 4611686018427387904) (nI (n / 2)) 0 h4 = _ := e5
  rw [e5']
  have S5 := C5.2.1.2.1
  have z5 : ∀ i, i < n → RV h5 (T + 7) i = z1L (fR h m l N) (hpI h (m + 2) l) n t hf (RV h (T + 1)) i := fun i hi => by
    unfold z1L
    by_cases q : i < n / 2
    · rw [if_pos q, v5 i (by omega) q]
    · rw [if_neg q, v5' i (Or.inr (by omega)), v4 i (by omega), o3 4 i4 (by omega)]; exact y2 i hi
  obtain ⟨w', h6, e6, C6, w01', w1', v6, o6⟩ := cu_slope 2 rfl (r := 7) (j := 2) C5 (Or.inr rfl) (by omega) n2 z5
  rw [st_gd S5, Option.bind_some, st_gd S5, Option.bind_some, C5.2.2.2.1, et, eh, fop_ok n2, Option.bind_some, st_g8 S5, Option.bind_some, st_ck S5, Option.bind_some, e6, bnd_some]
  by_cases z' : w' = 0
  · rw [if_neg (fun q => q z'), if_pos (by decide)]
    exact ⟨0, h6, rfl, mq_no C6 (fun q => absurd (w1'.mpr (q.1 2 (by decide))) (by rw [z']; decide))⟩
  have f6 := w1'.mp (w_ne w01' z')
  rw [if_pos z']
  have f6' : ∀ i, i < n → Fn (k3L (fR h m l N) (hpI h (m + 2) l) n t hf (RV h (T + 1)) i) := f6
  have k2 : ∀ i, i < n → RV h6 (T + 17) i = k3L (fR h m l N) (hpI h (m + 2) l) n t hf (RV h (T + 1)) i := v6
  have y6 : ∀ i, i < n → RV h6 (T + 4) i = yL (fR h m l N) (hpI h (m + 2) l) n t hf (RV h (T + 1)) i := fun i hi => by rw [o6 4 i4 (by omega), o5 4 i4 (by omega), o4 4 i4 (by omega), o3 4 i4 (by omega)]; exact y2 i hi
  -- the speeds of z
  obtain ⟨h7, e7, C7, v7, v7', o7⟩ := cu_loop (fun fuel i hh => f_X6_leap_194 fuel (some T) (FP.ddiv hf 4611686018427387904) i hh) (res := fun hh => some (1, hh)) (a := n / 2) (b := n) (mvV (hpI h (m + 2) l) (yL (fR h m l N) (hpI h (m + 2) l) n t hf (RV h (T + 1))) (FP.ddiv hf c2) (k3L (fR h m l N) (hpI h (m + 2) l) n t hf (RV h (T + 1)))) C6 m7 (by omega) hn (by
    intro fuel i hi _ hin Ci oi
    have Wi := Ci.2.1
    have a2 : hpD hi (T + 17 + 1) i = k3L (fR h m l N) (hpI h (m + 2) l) n t hf (RV h (T + 1)) i := kn_of (oi 17 i17 (by omega)) (k2 i hin) (f6' i hin)
    obtain ⟨f, e⟩ := c_arrive (h := hi) (i := i) (r := 7) (s := 4) Wi i7 i4 (by omega) ng (ev_num (f6' i hin).nm)
    refine ⟨f, ?_⟩
    rw [cu_nar Ci, oi 4 i4 (by omega), y6 i hin] at e
    show f_X6_leap_194 (fuel + 1) (some T) (FP.ddiv hf 4611686018427387904) (nI i) hi = f_X6_leap_194 fuel (some T) (FP.ddiv hf 4611686018427387904) (nI (i + 1)) _
    rw [f_X6_leap_194, st_g1 Wi.2.1, Option.bind_some, wt_gn Wi, Option.bind_some, if_neg (by rw [ni_le (by omega) (by omega)]; omega)]
    simp only [st_g0 Wi.2.1, Option.bind_some, rk_ck Wi.1.1, c_begin' Wi.1.1, bnd_some, wl_g8 Wi, wl_g7 Wi, wl_g9 Wi, wl_k2 Wi, wl_r Wi i17, wl_d Wi i17 (show i < 6 by omega), a2, wl_tc Wi, e]
    rw [li1, ni_add, mvV]) (fun i _ _ => cv_mvV _ _ _ _ _) (by
    intro fuel hi Wi
    show f_X6_leap_194 (fuel + 1) (some T) (FP.ddiv hf 4611686018427387904) (nI n) hi = _
    rw [f_X6_leap_194, st_g1 Wi.2.1, Option.bind_some, wt_gn Wi, Option.bind_some, if_pos ((ni_le (by omega) (by omega)).mpr (Nat.le_refl _)), if_pos (by decide)])
  have e7' : f_X6_leap_194 fuelN (some T) (FP.ddiv hf 4611686018427387904) (nI (n / 2)) h6 = _ := e7
  rw [e7']
  refine ⟨1, h7, rfl, C7.2.1, C7.2.2.1, C7.2.2.2.1, by rw [C7.2.2.2.2], Or.inr rfl, ⟨fun _ => ⟨fun j hj i hi => ?_, fun q => absurd q (by decide), fun q => absurd q (by decide)⟩, fun _ => rfl⟩, fun _ => ⟨fun j hj i hi => ?_, fun i hi => ?_, fun q => absurd q (by decide), by rw [C7.2.2.2.2, eg]; rfl⟩⟩
  · have : j < 3 := hj
    rcases (by omega : j = 0 ∨ j = 1 ∨ j = 2) with rfl | rfl | rfl
    · exact fk i hi
    · exact f3 i hi
    · exact f6 i hi
  · have : j < 3 := hj
    rcases (by omega : j = 0 ∨ j = 1 ∨ j = 2) with rfl | rfl | rfl
    · show RV h7 (T + 11) i = _; rw [cu_x C7 (by omega)]; exact hk i hi
    · show RV h7 (T + 14) i = _; rw [o7 14 i14 (by omega), o6 14 i14 (by omega), o5 14 i14 (by omega)]; exact k1 i hi
    · show RV h7 (T + 17) i = _; rw [o7 17 i17 (by omega)]; exact v6 i hi
  · show RV h7 (T + 7) i = zL (fR h m l N) (hpI h (m + 2) l) n t hf (RV h (T + 1)) i
    unfold zL
    by_cases q : i < n / 2
    · rw [if_pos q, v7' i (Or.inl q), o6 7 i7 (by omega)]; exact z5 i hi
    · rw [if_neg q, v7 i (by omega) hi]
