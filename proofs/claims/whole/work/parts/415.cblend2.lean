/-! ===== the class's cubic ===== -/
theorem Ev2.f01 {f : Int32} {x X y Y : UInt64} (h : Ev2 f x X y Y) : f = 0 ∨ f = 1 := by rcases h with ⟨-, -, ⟨h, -⟩ | ⟨h, -⟩⟩; exact Or.inl h; exact Or.inr h
theorem fg_1 (r : UInt64) : fg 1 r = 1 := by unfold fg; split <;> rfl
theorem fr_1 (n : Int32) : fr 1 n = 1 := by unfold fr; rw [if_neg (fun w => absurd w.1 (by decide))]
theorem ev2_r {op : UInt64 → UInt64 → UInt64} (hop : ∀ a b, Nm (op a b) → Nm a ∧ Nm b) {f : Int32} {x X y Y d : UInt64} (h : Ev2 f x X y Y) : Ev2 (fg f (op d y)) x X (nz (op d y)) (cn (op d Y)) := by
  obtain ⟨nx, ny, h⟩ := h
  refine ⟨nx, nm_nz _, ?_⟩
  rcases h with ⟨rfl, rfl, rfl⟩ | ⟨rfl, h⟩
  · by_cases q : Nm (op d Y)
    · rw [fg_nm q, nz_nm q, cn_nm q]; exact Or.inl ⟨rfl, rfl, rfl⟩
    · rw [fg_no q, cn_no q]; exact Or.inr ⟨rfl, Or.inr rfl⟩
  · rw [fg_1]
    rcases h with h | rfl
    · exact Or.inr ⟨rfl, Or.inl h⟩
    · exact Or.inr ⟨rfl, Or.inr (cn_no (fun z => nm_nanV (hop _ _ z).2))⟩
theorem ev2_l {op : UInt64 → UInt64 → UInt64} (hop : ∀ a b, Nm (op a b) → Nm a ∧ Nm b) {f : Int32} {x X y Y d : UInt64} (h : Ev2 f x X y Y) : Ev2 (fg f (op d x)) (nz (op d x)) (cn (op d X)) y Y := ev2_sw (ev2_r hop (ev2_sw h))
def Ev3 (f : Int32) (x X y Y z Z : UInt64) : Prop := Nm x ∧ Nm y ∧ Nm z ∧ ((f = 0 ∧ X = x ∧ Y = y ∧ Z = z) ∨ (f = 1 ∧ (X = nanV ∨ Y = nanV ∨ Z = nanV)))
theorem Ev3.f01 {f : Int32} {x X y Y z Z : UInt64} (h : Ev3 f x X y Y z Z) : f = 0 ∨ f = 1 := by rcases h with ⟨-, -, -, ⟨h, -⟩ | ⟨h, -⟩⟩; exact Or.inl h; exact Or.inr h
theorem ev3_read {h : Hp} {a N i : Nat} {f : Int32} {x X y Y : UInt64} (r : RN h a N) (hi : i < N) (e : Ev2 f x X y Y) : Ev3 (fr f (hpI h (a + 2) i)) x X y Y (hpD h (a + 1) i) (RV h a i) := by
  obtain ⟨nx, ny, e⟩ := e
  refine ⟨nx, ny, (r i hi).1, ?_⟩
  unfold RV
  rcases e with ⟨rfl, rfl, rfl⟩ | ⟨rfl, q⟩
  · rcases (r i hi).2 with z | z
    · rw [z, if_pos rfl]; exact Or.inl ⟨by unfold fr; rw [if_pos ⟨rfl, rfl⟩], rfl, rfl, rfl⟩
    · rw [z, if_neg (by decide)]; exact Or.inr ⟨by unfold fr; rw [if_neg (fun w => absurd w.2 (by decide))], Or.inr (Or.inr rfl)⟩
  · rw [fr_1]
    rcases q with q | q
    · exact Or.inr ⟨rfl, Or.inl q⟩
    · exact Or.inr ⟨rfl, Or.inr (Or.inl q)⟩
theorem ev3_r {op : UInt64 → UInt64 → UInt64} (hop : ∀ a b, Nm (op a b) → Nm a ∧ Nm b) {f : Int32} {x X y Y z Z d : UInt64} (h : Ev3 f x X y Y z Z) : Ev3 (fg f (op d z)) x X y Y (nz (op d z)) (cn (op d Z)) := by
  obtain ⟨nx, ny, nz', h⟩ := h
  refine ⟨nx, ny, nm_nz _, ?_⟩
  rcases h with ⟨rfl, rfl, rfl, rfl⟩ | ⟨rfl, h⟩
  · by_cases q : Nm (op d Z)
    · rw [fg_nm q, nz_nm q, cn_nm q]; exact Or.inl ⟨rfl, rfl, rfl, rfl⟩
    · rw [fg_no q, cn_no q]; exact Or.inr ⟨rfl, Or.inr (Or.inr rfl)⟩
  · rw [fg_1]
    rcases h with h | h | rfl
    · exact Or.inr ⟨rfl, Or.inl h⟩
    · exact Or.inr ⟨rfl, Or.inr (Or.inl h)⟩
    · exact Or.inr ⟨rfl, Or.inr (Or.inr (cn_no (fun z => nm_nanV (hop _ _ z).2)))⟩
theorem ev3_op {op : UInt64 → UInt64 → UInt64} (hop : ∀ a b, Nm (op a b) → Nm a ∧ Nm b) {f : Int32} {x X y Y z Z : UInt64} (h : Ev3 f x X y Y z Z) : Ev2 (fg f (op y z)) x X (nz (op y z)) (cn (op Y Z)) := by
  obtain ⟨nx, ny, nz', h⟩ := h
  refine ⟨nx, nm_nz _, ?_⟩
  rcases h with ⟨rfl, rfl, rfl, rfl⟩ | ⟨rfl, h⟩
  · by_cases q : Nm (op Y Z)
    · rw [fg_nm q, nz_nm q, cn_nm q]; exact Or.inl ⟨rfl, rfl, rfl⟩
    · rw [fg_no q, cn_no q]; exact Or.inr ⟨rfl, Or.inr rfl⟩
  · rw [fg_1]
    rcases h with h | rfl | rfl
    · exact Or.inr ⟨rfl, Or.inl h⟩
    · exact Or.inr ⟨rfl, Or.inr (cn_no (fun z => nm_nanV (hop _ _ z).1))⟩
    · exact Or.inr ⟨rfl, Or.inr (cn_no (fun z => nm_nanV (hop _ _ z).2))⟩
theorem wt_cp1 {h : Hp} {m l n ns N k L sg T r s i : Nat} (W : WT h m l n ns N k L sg T) (hr : IsR r) (hs : IsR s) (e : r ≠ s) (hi : i < 6) : f_X3_copyOne (T + r) (nI i) (some (T + s)) h = some ((), cp1 h (T + r) (T + s) i) ∧ WT (cp1 h (T + r) (T + s) i) m l n ns N k L sg T ∧ Fr (Pd k L (T + r)) h (cp1 h (T + r) (T + s) i) := by
  have G : Fr (Pd k L (T + r)) h (cp1 h (T + r) (T + s) i) := fr_cp1 (Fr.refl _ h) (Or.inr (Or.inl rfl)) (Or.inr (Or.inr rfl))
  have a1 := (pd_n W hr (Or.inl rfl)).2
  have a2 := (pd_n W hr (Or.inr rfl)).2
  have k1 : k ≠ T + r + 1 := fun z => a1 (Or.inl z.symm)
  have l7 : L + 6 + 1 ≠ T + r + 1 := fun z => a1 (Or.inr (Or.inl (by omega)))
  have l8 : L + 6 + 2 ≠ T + r + 2 := fun z => a2 (Or.inr (Or.inr (by omega)))
  refine ⟨c_copyOne (st_r W.2.1 hr) (st_r W.2.1 hs) hi (by omega) (W.2.2.1 s hs), wt_fr W hr G ⟨W.1.1.1, by rw [cp1_D k1]; exact W.1.1.2⟩ (fun j hj => by rw [cp1_D l7, cp1_I l8]; exact W.1.2.2.2.2.2.1 j hj) (RN_cp1 (W.2.2.1 r hr) (W.2.2.1 s hs) hi), G⟩
theorem c_blend {h : Hp} {m l n ns N k L sg T i : Nat} {s hf : UInt64} {A : RecT} (W : WT h m l n ns N k L sg T) (hi : i < n) (sb : SB s) (eh : hpD h T 4 = hf) (fh : HB hf) (a38 : A.2 38 0 = hf) (a39 : RV h (T + 1) i = A.2 39 i) (a40 : RV h (T + 7) i = A.2 40 i) (a41 : RV h (T + 11) i = A.2 41 i) (a42 : RV h (T + 26) i = A.2 42 i) :
    ∃ h', f_X6_blend T (nI i) s h = some ((), h') ∧ WT h' m l n ns N k L sg T ∧ Fr (Pd k L (T + 4)) h h' ∧ ∀ q, RV h' (T + 4) q = if q = i then cuS A (hpI h (m + 2) l) s i else RV h (T + 4) q := by
  have hn := wt_n W
  have S := W.2.1
  have i6 : i < 6 := by omega
  unfold f_X6_blend cuS
  by_cases c0 : cl s FP.dconst0 = 0
  · rw [if_neg (fun z => z c0), if_pos c0]
    obtain ⟨e, W', F'⟩ := wt_cp1 (r := 4) (s := 1) W i4 i1 (by omega) i6
    refine ⟨_, by rw [st_g7 S, Option.bind_some, st_g6 S, Option.bind_some, rw_ck (st_r S i4), Option.bind_some, e, bnd_some], W', F', fun q => ?_⟩
    rw [RV_cp1, a39]
  rw [if_pos c0, if_neg c0]
  by_cases c1 : cl s FP.dconst1 = 0
  · rw [if_neg (fun z => z c1), if_pos c1]
    obtain ⟨e, W', F'⟩ := wt_cp1 (r := 4) (s := 7) W i4 i7 (by omega) i6
    refine ⟨_, by rw [st_g7 S, Option.bind_some, st_g8 S, Option.bind_some, rw_ck (st_r S i4), Option.bind_some, e, bnd_some], W', F', fun q => ?_⟩
    rw [RV_cp1, a40]
  rw [if_pos c1, if_neg c1]
  obtain ⟨b1, b2, b3, b4, b5, b6, b7, b8, b9⟩ := sb_all sb fh
  have K := W.1.1
  have kr : ∀ r, IsR r → k ≠ T + r + 2 := fun r hr z => (pd_n W hr (Or.inr rfl)).2 (Or.inl z.symm)
  have kL : k ≠ L := by have h1 := W.1.2.2.2.2.2.2.2.1; have h2 := W.1.2.2.2.2.2.2.2.2.1; omega
  have N := W.2.2.1
  have e1 := ev_read0 (N 1 i1) i6
  have e2 := ev_op' (op := FP.dmul) hop_mul (c := FP.dadd FP.dconst1 (FP.dmul 4611686018427387904 s)) e1
  have e3 := ev_read (N 11 i11) i6 e2
  have e4 := ev2_r (op := FP.dmul) hop_mul (d := FP.dmul s hf) e3
  have e5 := ev2_op (op := FP.dadd) hop_add e4
  have e6 := ev_read (N 7 i7) i6 e5
  have e7 := ev2_r (op := FP.dmul) hop_mul (d := FP.dadd FP.dconst1 (FP.dmul 4611686018427387904 (FP.dsub FP.dconst1 s))) e6
  have e8 := ev3_read (N 26 i26) i6 e7
  have e9 := ev3_r (op := FP.dmul) hop_mul (d := FP.dmul (FP.dsub FP.dconst1 s) hf) e8
  have e10 := ev3_op (op := FP.dsub) hop_sub e9
  have e11 := ev2_l (op := FP.dmul) hop_mul (d := FP.dmul (FP.dsub FP.dconst1 s) (FP.dsub FP.dconst1 s)) e10
  have e12 := ev2_r (op := FP.dmul) hop_mul (d := FP.dmul s s) e11
  have e13 := ev2_op (op := FP.dadd) hop_add e12
  have nar : hpI h L 2 = hpI h (m + 2) l := W.1.2.2.2.1.2.2.1
  have narf : ∀ f, f_X1_isNarrow L (nI i) (stI h k 1 f) = some (if narB (hpI h (m + 2) l) (nI i) = true then 1 else 0, stI h k 1 f) := fun f => by
    rw [c_isNarrow (show LO (stI h k 1 f) L k sg n from W.1.2.1), hpI_stI_ne (Or.inl (Ne.symm kL)), nar]
  have pe : ∀ v : UInt64, pV (decide ((if narB (hpI h (m + 2) l) (nI i) = true then (1 : Int32) else 0) ≠ 0)) v = pV (narB (hpI h (m + 2) l) (nI i)) v := fun v => by
    by_cases z : narB (hpI h (m + 2) l) (nI i) = true
    · rw [if_pos z, z]; rfl
    · rw [if_neg z, Bool.eq_false_iff.mpr z]; rfl
  have p13 := fun f => c_put (nar := (if narB (hpI h (m + 2) l) (nI i) = true then (1 : Int32) else 0)) (st_r (show ST (stI h k 1 f) T k L from S) i4) i6 (by omega) e13
  have cM : cuM A s i = cn (FP.dadd (cn (FP.dmul (FP.dmul (FP.dsub FP.dconst1 s) (FP.dsub FP.dconst1 s)) (cn (FP.dadd (cn (FP.dmul (FP.dadd FP.dconst1 (FP.dmul 4611686018427387904 s)) (RV h (T + 1) i))) (cn (FP.dmul (FP.dmul s hf) (RV h (T + 11) i)))))))
    (cn (FP.dmul (FP.dmul s s) (cn (FP.dsub (cn (FP.dmul (FP.dadd FP.dconst1 (FP.dmul 4611686018427387904 (FP.dsub FP.dconst1 s))) (RV h (T + 7) i))) (cn (FP.dmul (FP.dmul (FP.dsub FP.dconst1 s) hf) (RV h (T + 26) i)))))))) := by
    unfold cuM; rw [a38, a39, a40, a41, a42]
  rw [cM]
  obtain ⟨W', F', v'⟩ := wt_wr (i := i) (f := _) (X := _) W i4 (Fr.refl _ h) (cv_pV (b := narB (hpI h (m + 2) l) (nI i)) e13.cv)
  refine ⟨_, ?_, W', F', v'⟩
  simp only [st_g0 S, Option.bind_some, rk_ck K, c_begin' K, bnd_some, fop_ok b1.nm, fop_ok b2.nm, fop_ok b3.nm, fop_ok b4.nm, fop_ok b5.nm, fop_ok b6.nm, fop_ok b7.nm, fop_ok b8.nm, fop_ok b9.nm, wl_g0 W, wl_g6 W, wl_kc W, c_read K (st_r S i1) i6 (by omega) (kr 1 i1) (Or.inl rfl), c_product K b4.nm e1.nm, wl_gd W, eh, wl_g9 W, wl_k0 W, c_read K (st_r S i11) i6 (by omega) (kr 11 i11) e2.f01, c_product K b5.nm e3.2.1, c_sum K e4.1 e4.2.1, wl_g8 W, c_read K (st_r S i7) i6 (by omega) (kr 7 i7) e5.f01, c_product K b8.nm e6.2.1, wl_g11 W, c_read K (st_r S i26) i6 (by omega) (kr 26 i26) e7.f01, c_product K b9.nm e8.2.2.1, c_difference K e9.2.1 e9.2.2.1, c_product K b2.nm e10.1, c_product K b6.nm e11.2.1, c_sum K e12.1 e12.2.1, wl_g7 W, wl_gf W, wl_g1 W, wl_lc W, narf, wl_rc W i4, p13, pe]
  rfl
theorem c_timeAt {h : Hp} {m l n ns N k L sg T : Nat} {t hf s : UInt64} (W : WT h m l n ns N k L sg T) (et : hpD h T 3 = t) (eh : hpD h T 4 = hf) (nt : Nm t) (fh : HB hf) (sb : SB s) : f_X6_timeAt T s h = some (FP.dadd t (FP.dmul s hf), h) := by
  obtain ⟨b1, b2, b3, b4, b5, b6, b7, b8, b9⟩ := sb_all sb fh
  unfold f_X6_timeAt
  rw [st_gd W.2.1, Option.bind_some, st_gd W.2.1, Option.bind_some, et, eh, fop_ok b5.nm, Option.bind_some, fop_ok (add_nm2 nt b5), Option.bind_some]
/-- the step of a record lies in a step's object -/
def SA (h : Hp) (T n : Nat) (A : RecT) : Prop := hpD h T 3 = A.2 37 0 ∧ hpD h T 4 = A.2 38 0 ∧ (∀ i, i < n → RV h (T + 1) i = A.2 39 i ∧ RV h (T + 7) i = A.2 40 i ∧ RV h (T + 11) i = A.2 41 i ∧ RV h (T + 26) i = A.2 42 i)
theorem c_blendAll {h : Hp} {m l n ns N k L sg T : Nat} {s : UInt64} {A : RecT} (W : WT h m l n ns N k L sg T) (sb : SB s) (fh : HB (A.2 38 0)) (a : SA h T n A) :
    ∃ h', f_X6_blendAll T s h = some ((), h') ∧ WT h' m l n ns N k L sg T ∧ Fr (Pd k L (T + 4)) h h' ∧ (∀ i, i < n → RV h' (T + 4) i = cuS A (hpI h (m + 2) l) s i) ∧ SA h' T n A := by
  have hn := wt_n W
  have sa : ∀ hh, Fr (Pd k L (T + 4)) h hh → SA hh T n A := fun hh F => ⟨by rw [wt_TD W i4 F]; exact a.1, by rw [wt_TD W i4 F]; exact a.2.1, fun i hi => by rw [wt_RV W i4 F i1 (by omega), wt_RV W i4 F i7 (by omega), wt_RV W i4 F i11 (by omega), wt_RV W i4 F i26 (by omega)]; exact a.2.2 i hi⟩
  obtain ⟨h', e, W', F', v⟩ := loop_rel (fun fuel i hh => f_X6_blendAll_2 fuel (some T) s i hh) (fun i hh => WT hh m l n ns N k L sg T ∧ Fr (Pd k L (T + 4)) h hh ∧ ∀ q, q < i → RV hh (T + 4) q = cuS A (hpI h (m + 2) l) s q) (n := n) (res := fun hh => some ((), hh)) (by omega) (by
    rintro fuel i hi hin ⟨Wi, Fi, vi⟩
    obtain ⟨c1, c2, c3⟩ := sa hi Fi
    obtain ⟨d1, d2, d3, d4⟩ := c3 i hin
    obtain ⟨h2, e2, W2, F2, v2⟩ := c_blend Wi hin sb c2 fh rfl d1 d2 d3 d4
    refine ⟨h2, ?_, W2, Fi.trans F2, fun q hq => ?_⟩
    · show f_X6_blendAll_2 (fuel + 1) (some T) s (nI i) hi = f_X6_blendAll_2 fuel (some T) s (nI (i + 1)) _
      rw [f_X6_blendAll_2, st_g1 Wi.2.1, Option.bind_some, wt_gn Wi, Option.bind_some, if_neg (by rw [ni_le (by omega) (by omega)]; omega), st_ck Wi.2.1, Option.bind_some, e2, bnd_some, li1, ni_add]
    · rw [v2]
      by_cases z : q = i
      · rw [if_pos z, z, wt_nar W i4 Fi]
      · rw [if_neg z]; exact vi q (by omega)) (by
    rintro fuel hi ⟨Wi, -⟩
    show f_X6_blendAll_2 (fuel + 1) (some T) s (nI n) hi = _
    rw [f_X6_blendAll_2, st_g1 Wi.2.1, Option.bind_some, wt_gn Wi, Option.bind_some, if_pos ((ni_le (by omega) (by omega)).mpr (Nat.le_refl _))]) h ⟨W, Fr.refl _ h, fun q hq => by omega⟩
  exact ⟨h', e, W', F', v, sa h' F'⟩
