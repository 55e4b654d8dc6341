/-! ===== THIRD and FOURTH of the class ===== -/
theorem wl_g0 {h : Hp} {m l n ns N k L sg T : Nat} (W : WT h m l n ns N k L sg T) (f : Int32) : getR (stI h k 1 f) (some T) 6 0 = some (some k) := st_g0 (show ST (stI h k 1 f) T k L from W.2.1)
theorem wl_g1 {h : Hp} {m l n ns N k L sg T : Nat} (W : WT h m l n ns N k L sg T) (f : Int32) : getR (stI h k 1 f) (some T) 6 1 = some (some L) := st_g1 (show ST (stI h k 1 f) T k L from W.2.1)
theorem wl_g6 {h : Hp} {m l n ns N k L sg T : Nat} (W : WT h m l n ns N k L sg T) (f : Int32) : getR (stI h k 1 f) (some T) 6 6 = some (some (T + 1)) := st_g6 (show ST (stI h k 1 f) T k L from W.2.1)
theorem wl_g7 {h : Hp} {m l n ns N k L sg T : Nat} (W : WT h m l n ns N k L sg T) (f : Int32) : getR (stI h k 1 f) (some T) 6 7 = some (some (T + 4)) := st_g7 (show ST (stI h k 1 f) T k L from W.2.1)
theorem wl_g8 {h : Hp} {m l n ns N k L sg T : Nat} (W : WT h m l n ns N k L sg T) (f : Int32) : getR (stI h k 1 f) (some T) 6 8 = some (some (T + 7)) := st_g8 (show ST (stI h k 1 f) T k L from W.2.1)
theorem wl_g9 {h : Hp} {m l n ns N k L sg T : Nat} (W : WT h m l n ns N k L sg T) (f : Int32) : getR (stI h k 1 f) (some T) 6 9 = some (some (T + 10)) := st_g9 (show ST (stI h k 1 f) T k L from W.2.1)
theorem wl_g10 {h : Hp} {m l n ns N k L sg T : Nat} (W : WT h m l n ns N k L sg T) (f : Int32) : getR (stI h k 1 f) (some T) 6 10 = some (some (T + 23)) := st_g10 (show ST (stI h k 1 f) T k L from W.2.1)
theorem wl_g11 {h : Hp} {m l n ns N k L sg T : Nat} (W : WT h m l n ns N k L sg T) (f : Int32) : getR (stI h k 1 f) (some T) 6 11 = some (some (T + 26)) := st_g11 (show ST (stI h k 1 f) T k L from W.2.1)
theorem wl_gd {h : Hp} {m l n ns N k L sg T : Nat} (W : WT h m l n ns N k L sg T) (f : Int32) (j : Nat) : getD (stI h k 1 f) (some T) 6 j = some (hpD h T j) := st_gd (show ST (stI h k 1 f) T k L from W.2.1)
theorem wl_gf {h : Hp} {m l n ns N k L sg T : Nat} (W : WT h m l n ns N k L sg T) (f : Int32) : getI (stI h k 1 f) (some k) 2 1 = some f := by rw [getI_ok (rk_stI W.1.1).1, hpI_stI_self]
theorem wl_kc {h : Hp} {m l n ns N k L sg T : Nat} (W : WT h m l n ns N k L sg T) (f : Int32) : ab_ck (stI h k 1 f) (some k) (2, 0) = some k := rk_ck (rk_stI W.1.1)
theorem wl_tc {h : Hp} {m l n ns N k L sg T : Nat} (W : WT h m l n ns N k L sg T) (f : Int32) : ab_ck (stI h k 1 f) (some T) (6, 0) = some T := st_ck (show ST (stI h k 1 f) T k L from W.2.1)
theorem wl_lc {h : Hp} {m l n ns N k L sg T : Nat} (W : WT h m l n ns N k L sg T) (f : Int32) : ab_ck (stI h k 1 f) (some L) (1, 0) = some L := lo_ck (show LO (stI h k 1 f) L k sg n from W.1.2.1)
theorem wl_k0 {h : Hp} {m l n ns N k L sg T : Nat} (W : WT h m l n ns N k L sg T) (f : Int32) : aldR (stI h k 1 f) (some (T + 10)) 14 0 = some (some (T + 11)) := st_k (j := 0) (show ST (stI h k 1 f) T k L from W.2.1) (by omega)
theorem wl_k1 {h : Hp} {m l n ns N k L sg T : Nat} (W : WT h m l n ns N k L sg T) (f : Int32) : aldR (stI h k 1 f) (some (T + 10)) 14 1 = some (some (T + 14)) := st_k (j := 1) (show ST (stI h k 1 f) T k L from W.2.1) (by omega)
theorem wl_k2 {h : Hp} {m l n ns N k L sg T : Nat} (W : WT h m l n ns N k L sg T) (f : Int32) : aldR (stI h k 1 f) (some (T + 10)) 14 2 = some (some (T + 17)) := st_k (j := 2) (show ST (stI h k 1 f) T k L from W.2.1) (by omega)
theorem wl_k3 {h : Hp} {m l n ns N k L sg T : Nat} (W : WT h m l n ns N k L sg T) (f : Int32) : aldR (stI h k 1 f) (some (T + 10)) 14 3 = some (some (T + 20)) := st_k (j := 3) (show ST (stI h k 1 f) T k L from W.2.1) (by omega)
theorem wl_r {h : Hp} {m l n ns N k L sg T r : Nat} (W : WT h m l n ns N k L sg T) (hr : IsR r) (f : Int32) : getR (stI h k 1 f) (some (T + r)) 3 0 = some (some (T + r + 1)) := rw_g0 (st_r (show ST (stI h k 1 f) T k L from W.2.1) hr)
theorem wl_d {h : Hp} {m l n ns N k L sg T r i : Nat} (W : WT h m l n ns N k L sg T) (hr : IsR r) (hi : i < 6) (f : Int32) : aldD (stI h k 1 f) (some (T + r + 1)) (nI i) = some (hpD h (T + r + 1) i) := rw_a0 (st_r (show ST (stI h k 1 f) T k L from W.2.1) hr) hi (by omega)
theorem wl_rc {h : Hp} {m l n ns N k L sg T r : Nat} (W : WT h m l n ns N k L sg T) (hr : IsR r) (f : Int32) : ab_ck (stI h k 1 f) (some (T + r)) (3, 0) = some (T + r) := rw_ck (st_r (show ST (stI h k 1 f) T k L from W.2.1) hr)
theorem i11 : IsR 11 := by unfold IsR; omega
theorem i14 : IsR 14 := by unfold IsR; omega
theorem i17 : IsR 17 := by unfold IsR; omega
theorem i20 : IsR 20 := by unfold IsR; omega
theorem i23 : IsR 23 := by unfold IsR; omega
theorem i26 : IsR 26 := by unfold IsR; omega
theorem i1 : IsR 1 := by unfold IsR; omega
theorem i4 : IsR 4 := by unfold IsR; omega
theorem i7 : IsR 7 := by unfold IsR; omega
theorem m4 : IsM 4 := by unfold IsM; omega
theorem m7 : IsM 7 := by unfold IsM; omega
theorem m23 : IsM 23 := by unfold IsM; omega
/-- a k's number, in a loop that writes another row -/
theorem kn_of {hi h : Hp} {a i : Nat} {κ : Nat → UInt64} (e : RV hi a = RV h a) (v : RV h a i = κ i) (f : Fn (κ i)) : hpD hi (a + 1) i = κ i := by
  have q : RV hi a i = κ i := by rw [e, v]
  rw [fn_num (by rw [q]; exact f), q]
theorem fn_c {c : UInt64} {k : Int} (h : ky c = k) (hk : k.natAbs < 9218868437227405312) : Fn c := by show (ky c).natAbs < _; rw [h]; exact hk
theorem fn_c2 : Fn 4611686018427387904 := fn_c ky_c2 (by decide)
theorem fn_c3 : Fn 4613937818241073152 := fn_c ky_c3 (by decide)
theorem fn_c4 : Fn 4616189618054758400 := fn_c ky_c4 (by decide)
theorem fn_c6 : Fn 4618441417868443648 := fn_c ky_c6 (by decide)
theorem ky_c5 : ky 4617315517961601024 = 4617315517961601024 := by decide +kernel
theorem ky_c8 : ky 4620693217682128896 = 4620693217682128896 := by decide +kernel
theorem fn_c5 : Fn 4617315517961601024 := fn_c ky_c5 (by decide)
theorem fn_c8 : Fn 4620693217682128896 := fn_c ky_c8 (by decide)
theorem fn_c9 : Fn 4621256167635550208 := fn_c ky_c9 (by decide)
theorem cv_pc (b : Bool) (v : UInt64) : Cv (pV b (cn v)) := cv_pV (cv_cn v)
theorem c_third_144 {h0 h : Hp} {m l n ns N k L sg T : Nat} {hf : UInt64} {κ0 κ1 κ2 : Nat → UInt64} (C : CU h0 h m l n ns N k L sg T) (eh : hpD h0 T 4 = hf) (fh : HB hf) (v0 : ∀ i, i < n → RV h (T + 11) i = κ0 i) (v1 : ∀ i, i < n → RV h (T + 14) i = κ1 i) (v2 : ∀ i, i < n → RV h (T + 17) i = κ2 i) (f0 : ∀ i, i < n → Fn (κ0 i)) (f1 : ∀ i, i < n → Fn (κ1 i)) (f2 : ∀ i, i < n → Fn (κ2 i)) :
    ∃ h', f_X6_third_144 fuelN (some T) 0 h = some (1, h') ∧ CU h0 h' m l n ns N k L sg T ∧ (∀ i, i < n → RV h' (T + 7) i = mvV (hpI h0 (m + 2) l) (RV h0 (T + 1)) (FP.ddiv hf c6) (s3b κ0 κ1 κ2) i) ∧ ∀ q, IsR q → q ≠ 7 → RV h' (T + q) = RV h (T + q) := by
  have hn := wt_n C.1
  have nd : Nm (FP.ddiv hf 4618441417868443648) := (hb_div fh ky_c6 (by omega)).fn.nm
  obtain ⟨h', e, C', v, -, o⟩ := cu_loop (fun fuel i hh => f_X6_third_144 fuel (some T) i hh) (res := fun hh => some (1, hh)) (a := 0) (b := n) (mvV (hpI h0 (m + 2) l) (RV h0 (T + 1)) (FP.ddiv hf c6) (s3b κ0 κ1 κ2)) C m7 (by omega) hn (by
    intro fuel i hi _ hin Ci oi
    have Wi := Ci.2.1
    have a0 := kn_of (oi 11 i11 (by omega)) (v0 i hin) (f0 i hin)
    have a1 := kn_of (oi 14 i14 (by omega)) (v1 i hin) (f1 i hin)
    have a2 := kn_of (oi 17 i17 (by omega)) (v2 i hin) (f2 i hin)
    have n1 : Nm (FP.dmul 4616189618054758400 (κ1 i)) := mul_nm fn_c4 (f1 i hin)
    have s1 := ev_op (op := FP.dadd) hop_add (c := FP.dmul 4616189618054758400 (κ1 i)) (ev_num (f0 i hin).nm)
    have s2 := ev_op (op := FP.dadd) hop_add (c := κ2 i) s1
    obtain ⟨f, e⟩ := c_arrive (h := hi) (i := i) (r := 7) (s := 1) Wi i7 i1 (by omega) nd s2
    refine ⟨f, ?_⟩
    rw [cu_nar Ci, cu_x Ci (Or.inl rfl)] at e
    have d4 : hpD hi T 4 = hf := by rw [Ci.2.2.2.1, eh]
    show f_X6_third_144 (fuel + 1) (some T) (nI i) hi = f_X6_third_144 fuel (some T) (nI (i + 1)) _
    rw [f_X6_third_144, st_g1 Wi.2.1, Option.bind_some, wt_gn Wi, Option.bind_some, if_neg (by rw [ni_le (by omega) (by omega)]; omega)]
    simp only [st_g0 Wi.2.1, Option.bind_some, rk_ck Wi.1.1, c_begin' Wi.1.1, bnd_some, wl_g0 Wi, wl_g9 Wi, wl_k0 Wi, wl_k1 Wi, wl_k2 Wi, wl_r Wi i11, wl_r Wi i14, wl_r Wi i17, wl_d Wi i11 (show i < 6 by omega), wl_d Wi i14 (show i < 6 by omega), wl_d Wi i17 (show i < 6 by omega), a0, a1, a2, fop_ok n1, wl_kc Wi, c_sum Wi.1.1 (f0 i hin).nm n1, c_sum Wi.1.1 s1.nm (f2 i hin).nm, wl_g8 Wi, wl_g6 Wi, wl_gd Wi, d4, fop_ok nd, wl_tc Wi, e]
    rw [li1, ni_add, mvV, s3b, cn_nm n1]) (fun i _ _ => cv_mvV _ _ _ _ _) (by
    intro fuel hi Wi
    show f_X6_third_144 (fuel + 1) (some T) (nI n) hi = _
    rw [f_X6_third_144, st_g1 Wi.2.1, Option.bind_some, wt_gn Wi, Option.bind_some, if_pos ((ni_le (by omega) (by omega)).mpr (Nat.le_refl _)), if_pos (by decide)])
  exact ⟨h', e, C', fun i hi => v i (by omega) hi, o⟩
theorem c_third {h : Hp} {m l n ns N k L sg T : Nat} {t hf : UInt64} (M0 : MS h m l n ns N k L sg T t hf) : ∃ w h', f_X6_third T h = some (w, h') ∧ MQc h h' w m l n ns N k L sg T 2 t hf := by
  obtain ⟨W, et, eh, eg, nt, fh, hk, fk⟩ := M0
  have hn := wt_n W
  have C := cu_refl W
  have ng : Nm (FP.ddiv hf 4611686018427387904) := (fn_half fh).nm
  obtain ⟨h1, e1, C1, v1, o1⟩ := cu_move 0 rfl (r := 4) (j := 0) C (Or.inl rfl) (by omega) ng hk fk
  have n1 : Nm (FP.dadd t (FP.ddiv hf 4611686018427387904)) := add_nm2 nt (fn_half fh)
  have n2 : Nm (FP.dadd t hf) := add_nm2 nt fh.fn
  obtain ⟨w, h2, e2, C2, w01, w1, v2, o2⟩ := cu_slope 1 rfl (r := 4) (j := 1) C1 (Or.inl rfl) (by omega) n1 v1
  have S1 := C1.2.1.2.1
  have S2 := C2.2.1.2.1
  unfold f_X6_third
  rw [st_gd W.2.1, Option.bind_some, eh, fop_ok ng, Option.bind_some, st_g7 W.2.1, Option.bind_some, st_ck W.2.1, Option.bind_some, e1, bnd_some, st_gd S1, Option.bind_some, C1.2.2.2.1, et, fop_ok n1, Option.bind_some, st_g7 S1, Option.bind_some, st_ck S1, Option.bind_some, e2, bnd_some]
  by_cases z : w = 0
  · rw [if_neg (fun q => q z), if_pos (by decide)]
    exact ⟨0, h2, rfl, mq_no C2 (fun q => absurd (w1.mpr (q.1 1 (by decide))) (by rw [z]; decide))⟩
  · have f2 := w1.mp (w_ne w01 z)
    rw [if_pos z]
    have k0 : ∀ i, i < n → RV h2 (T + 11) i = fR h m l N t (RV h (T + 1)) i := fun i hi => by rw [cu_x C2 (by omega)]; exact hk i hi
    -- the second loop
    obtain ⟨h3, e3, C3, v3, -, o3⟩ := cu_loop (fun fuel i hh => f_X6_third_41 fuel (some T) i hh) (res := fun hh => (getD hh (some T) 6 3).bind fun x4 =>
      (getD hh (some T) 6 4).bind fun x5 =>
      (fop (FP.dadd x4 x5)).bind fun x6 =>
      (getR hh (some T) 6 7).bind fun x7 =>
      (ab_ck hh (some T) (6, 0)).bind fun a11 =>
      bnd (f_X6_slope a11 2 x6 x7 hh) fun x8 h9 =>
      if ¬ x8 = 0 then
        f_X6_third_144 fuelN (some T) 0 h9
      else
        if 0 = 0 ∨ 0 = 1 then some (0, h9) else none) (a := 0) (b := n) (mvV (hpI h (m + 2) l) (RV h (T + 1)) hf (s3a (fR h m l N t (RV h (T + 1))) (kA (fR h m l N) (hpI h (m + 2) l) t hf (RV h (T + 1))))) C2 m4 (by omega) hn (by
      intro fuel i hi _ hin Ci oi
      have Wi := Ci.2.1
      have a0 := kn_of (oi 11 i11 (by omega)) (k0 i hin) (fk i hin)
      have a1 : hpD hi (T + 14 + 1) i = kA (fR h m l N) (hpI h (m + 2) l) t hf (RV h (T + 1)) i := kn_of (oi 14 i14 (by omega)) (v2 i hin) (f2 i hin)
      have fa1 : Fn (kA (fR h m l N) (hpI h (m + 2) l) t hf (RV h (T + 1)) i) := f2 i hin
      have q1 : Nm (FP.dmul 4611686018427387904 (kA (fR h m l N) (hpI h (m + 2) l) t hf (RV h (T + 1)) i)) := mul_nm fn_c2 fa1
      have s1 := ev_op (op := FP.dsub) hop_sub (c := fR h m l N t (RV h (T + 1)) i) (ev_num q1)
      obtain ⟨f, e⟩ := c_arrive (h := hi) (i := i) (r := 4) (s := 1) Wi i4 i1 (by omega) fh.fn.nm s1
      refine ⟨f, ?_⟩
      rw [cu_nar Ci, cu_x Ci (Or.inl rfl)] at e
      have d4 : hpD hi T 4 = hf := by rw [Ci.2.2.2.1, eh]
      show f_X6_third_41 (fuel + 1) (some T) (nI i) hi = f_X6_third_41 fuel (some T) (nI (i + 1)) _
      rw [f_X6_third_41, st_g1 Wi.2.1, Option.bind_some, wt_gn Wi, Option.bind_some, if_neg (by rw [ni_le (by omega) (by omega)]; omega)]
      simp only [st_g0 Wi.2.1, Option.bind_some, rk_ck Wi.1.1, c_begin' Wi.1.1, bnd_some, wl_g0 Wi, wl_g9 Wi, wl_k0 Wi, wl_k1 Wi, wl_r Wi i11, wl_r Wi i14, wl_d Wi i11 (show i < 6 by omega), wl_d Wi i14 (show i < 6 by omega), a0, a1, fop_ok q1, wl_kc Wi, c_difference Wi.1.1 q1 (fk i hin).nm, wl_g7 Wi, wl_g6 Wi, wl_gd Wi, d4, wl_tc Wi, e]
      rw [li1, ni_add, mvV, s3a, cn_nm q1]) (fun i _ _ => cv_mvV _ _ _ _ _) (by
      intro fuel hi Wi
      show f_X6_third_41 (fuel + 1) (some T) (nI n) hi = _
      rw [f_X6_third_41, st_g1 Wi.2.1, Option.bind_some, wt_gn Wi, Option.bind_some, if_pos ((ni_le (by omega) (by omega)).mpr (Nat.le_refl _))])
    have e3' : f_X6_third_41 fuelN (some T) 0 h2 = _ := e3
    rw [e3']
    have S3 := C3.2.1.2.1
    obtain ⟨w', h4, e4, C4, w01', w1', v4, o4⟩ := cu_slope 2 rfl (r := 4) (j := 2) C3 (Or.inl rfl) (by omega) n2 (fun i hi => v3 i (by omega) hi)
    rw [st_gd S3, Option.bind_some, st_gd S3, Option.bind_some, C3.2.2.2.1, et, eh, fop_ok n2, Option.bind_some, st_g7 S3, Option.bind_some, st_ck S3, Option.bind_some, e4, bnd_some]
    by_cases z' : w' = 0
    · rw [if_neg (fun q => q z'), if_pos (by decide)]
      exact ⟨0, h4, rfl, mq_no C4 (fun q => absurd (w1'.mpr (q.1 2 (by decide))) (by rw [z']; decide))⟩
    · have f4 := w1'.mp (w_ne w01' z')
      rw [if_pos z']
      have b0 : ∀ i, i < n → RV h4 (T + 11) i = fR h m l N t (RV h (T + 1)) i := fun i hi => by rw [cu_x C4 (by omega)]; exact hk i hi
      have b1 : ∀ i, i < n → RV h4 (T + 14) i = kA (fR h m l N) (hpI h (m + 2) l) t hf (RV h (T + 1)) i := fun i hi => by rw [o4 14 i14 (by omega), o3 14 i14 (by omega)]; exact v2 i hi
      obtain ⟨h5, e5, C5, v5, o5⟩ := c_third_144 (κ1 := kA (fR h m l N) (hpI h (m + 2) l) t hf (RV h (T + 1))) C4 eh fh b0 b1 v4 fk f2 f4
      rw [e5]
      refine ⟨1, h5, rfl, C5.2.1, C5.2.2.1, C5.2.2.2.1, by rw [C5.2.2.2.2], Or.inr rfl, ⟨fun _ => ⟨fun j hj i hi => ?_, fun q => absurd q (by decide), fun q => absurd q (by decide)⟩, fun _ => rfl⟩, fun _ => ⟨fun j hj i hi => ?_, v5, fun q => absurd q (by decide), by rw [C5.2.2.2.2, eg]; rfl⟩⟩
      · have : j < 3 := hj
        rcases (by omega : j = 0 ∨ j = 1 ∨ j = 2) with rfl | rfl | rfl
        · exact fk i hi
        · exact f2 i hi
        · exact f4 i hi
      · have : j < 3 := hj
        rcases (by omega : j = 0 ∨ j = 1 ∨ j = 2) with rfl | rfl | rfl
        · show RV h5 (T + 11) i = _; rw [o5 11 i11 (by omega)]; exact b0 i hi
        · show RV h5 (T + 14) i = _; rw [o5 14 i14 (by omega)]; exact b1 i hi
        · show RV h5 (T + 17) i = _; rw [o5 17 i17 (by omega)]; exact v4 i hi
