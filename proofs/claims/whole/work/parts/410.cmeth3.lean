/-! ===== FOURTH and PAIR of the class ===== -/
theorem c_fourth_107 {h0 h : Hp} {m l n ns N k L sg T : Nat} {hf : UInt64} {κ0 κ1 κ2 κ3 : Nat → UInt64} (C : CU h0 h m l n ns N k L sg T) (eh : hpD h0 T 4 = hf) (fh : HB hf) (v0 : ∀ i, i < n → RV h (T + 11) i = κ0 i) (v1 : ∀ i, i < n → RV h (T + 14) i = κ1 i) (v2 : ∀ i, i < n → RV h (T + 17) i = κ2 i) (v3 : ∀ i, i < n → RV h (T + 20) i = κ3 i) (f0 : ∀ i, i < n → Fn (κ0 i)) (f1 : ∀ i, i < n → Fn (κ1 i)) (f2 : ∀ i, i < n → Fn (κ2 i)) (f3 : ∀ i, i < n → Fn (κ3 i)) :
    ∃ h', f_X6_fourth_107 fuelN (some T) 0 h = some (1, h') ∧ CU h0 h' m l n ns N k L sg T ∧ (∀ i, i < n → RV h' (T + 7) i = mvV (hpI h0 (m + 2) l) (RV h0 (T + 1)) (FP.ddiv hf c6) (s4 κ0 κ1 κ2 κ3) i) ∧ ∀ q, IsR q → q ≠ 7 → RV h' (T + q) = RV h (T + q) := by
  have hn := wt_n C.1
  have nd : Nm (FP.ddiv hf 4618441417868443648) := (hb_div fh ky_c6 (by omega)).fn.nm
  obtain ⟨h', e, C', v, -, o⟩ := cu_loop (fun fuel i hh => f_X6_fourth_107 fuel (some T) i hh) (res := fun hh => some (1, hh)) (a := 0) (b := n) (mvV (hpI h0 (m + 2) l) (RV h0 (T + 1)) (FP.ddiv hf c6) (s4 κ0 κ1 κ2 κ3)) C m7 (by omega) hn (by
    intro fuel i hi _ hin Ci oi
    have Wi := Ci.2.1
    have a0 := kn_of (oi 11 i11 (by omega)) (v0 i hin) (f0 i hin)
    have a1 := kn_of (oi 14 i14 (by omega)) (v1 i hin) (f1 i hin)
    have a2 := kn_of (oi 17 i17 (by omega)) (v2 i hin) (f2 i hin)
    have a3 := kn_of (oi 20 i20 (by omega)) (v3 i hin) (f3 i hin)
    have n1 : Nm (FP.dmul 4611686018427387904 (κ1 i)) := mul_nm fn_c2 (f1 i hin)
    have n2 : Nm (FP.dmul 4611686018427387904 (κ2 i)) := mul_nm fn_c2 (f2 i hin)
    have s1 := ev_op (op := FP.dadd) hop_add (c := FP.dmul 4611686018427387904 (κ1 i)) (ev_num (f0 i hin).nm)
    have s2 := ev_op (op := FP.dadd) hop_add (c := FP.dmul 4611686018427387904 (κ2 i)) s1
    have s3 := ev_op (op := FP.dadd) hop_add (c := κ3 i) s2
    obtain ⟨f, e⟩ := c_arrive (h := hi) (i := i) (r := 7) (s := 1) Wi i7 i1 (by omega) nd s3
    refine ⟨f, ?_⟩
    rw [cu_nar Ci, cu_x Ci (Or.inl rfl)] at e
    have d4 : hpD hi T 4 = hf := by rw [Ci.2.2.2.1, eh]
    show f_X6_fourth_107 (fuel + 1) (some T) (nI i) hi = f_X6_fourth_107 fuel (some T) (nI (i + 1)) _
    rw [f_X6_fourth_107, st_g1 Wi.2.1, Option.bind_some, wt_gn Wi, Option.bind_some, if_neg (by rw [ni_le (by omega) (by omega)]; omega)]
    simp only [st_g0 Wi.2.1, Option.bind_some, rk_ck Wi.1.1, c_begin' Wi.1.1, bnd_some, wl_g0 Wi, wl_g9 Wi, wl_k0 Wi, wl_k1 Wi, wl_k2 Wi, wl_k3 Wi, wl_r Wi i11, wl_r Wi i14, wl_r Wi i17, wl_r Wi i20, wl_d Wi i11 (show i < 6 by omega), wl_d Wi i14 (show i < 6 by omega), wl_d Wi i17 (show i < 6 by omega), wl_d Wi i20 (show i < 6 by omega), a0, a1, a2, a3, fop_ok n1, fop_ok n2, wl_kc Wi, c_sum Wi.1.1 (f0 i hin).nm n1, c_sum Wi.1.1 s1.nm n2, c_sum Wi.1.1 s2.nm (f3 i hin).nm, wl_g8 Wi, wl_g6 Wi, wl_gd Wi, d4, fop_ok nd, wl_tc Wi, e]
    rw [li1, ni_add, mvV, s4, cn_nm n1, cn_nm n2]) (fun i _ _ => cv_mvV _ _ _ _ _) (by
    intro fuel hi Wi
    show f_X6_fourth_107 (fuel + 1) (some T) (nI n) hi = _
    rw [f_X6_fourth_107, st_g1 Wi.2.1, Option.bind_some, wt_gn Wi, Option.bind_some, if_pos ((ni_le (by omega) (by omega)).mpr (Nat.le_refl _)), if_pos (by decide)])
  exact ⟨h', e, C', fun i hi => v i (by omega) hi, o⟩
theorem c_fourth {h : Hp} {m l n ns N k L sg T : Nat} {t hf : UInt64} (M0 : MS h m l n ns N k L sg T t hf) : ∃ w h', f_X6_fourth T h = some (w, h') ∧ MQc h h' w m l n ns N k L sg T 3 t hf := by
  obtain ⟨W, et, eh, eg, nt, fh, hk, fk⟩ := M0
  have hn := wt_n W
  have C := cu_refl W
  have ng : Nm (FP.ddiv hf 4611686018427387904) := (fn_half fh).nm
  obtain ⟨h1, e1, C1, v1, o1⟩ := cu_move 0 rfl (r := 4) (j := 0) C (Or.inl rfl) (by omega) ng hk fk
  have n1 : Nm (FP.dadd t (FP.ddiv hf 4611686018427387904)) := add_nm2 nt (fn_half fh)
  have n2 : Nm (FP.dadd t hf) := add_nm2 nt fh.fn
  obtain ⟨w, h2, e2, C2, w01, w1, v2, o2⟩ := cu_slope 1 rfl (r := 4) (j := 1) C1 (Or.inl rfl) (by omega) n1 v1
  have S1 := C1.2.1.2.1
  have S2 := C2.2.1.2.1
  unfold f_X6_fourth
  rw [st_gd W.2.1, Option.bind_some, eh, fop_ok ng, Option.bind_some, st_g7 W.2.1, Option.bind_some, st_ck W.2.1, Option.bind_some, e1, bnd_some, st_gd S1, Option.bind_some, C1.2.2.2.1, et, fop_ok n1, Option.bind_some, st_g7 S1, Option.bind_some, st_ck S1, Option.bind_some, e2, bnd_some]
  by_cases z : w = 0
  · rw [if_neg (fun q => q z), if_pos (by decide)]
    exact ⟨0, h2, rfl, mq_no C2 (fun q => absurd (w1.mpr (q.1 1 (by decide))) (by rw [z]; decide))⟩
  · have f2 := w1.mp (w_ne w01 z)
    obtain ⟨h3, e3, C3, v3, o3⟩ := cu_move 1 rfl (r := 4) (j := 1) C2 (Or.inl rfl) (by omega) ng v2 f2
    have S3 := C3.2.1.2.1
    obtain ⟨w', h4, e4, C4, w01', w1', v4, o4⟩ := cu_slope 2 rfl (r := 4) (j := 2) C3 (Or.inl rfl) (by omega) n1 v3
    have S4 := C4.2.1.2.1
    rw [if_pos z, st_g7 S2, Option.bind_some, st_ck S2, Option.bind_some, e3, bnd_some, st_gd S3, Option.bind_some, C3.2.2.2.1, et, fop_ok n1, Option.bind_some, st_g7 S3, Option.bind_some, st_ck S3, Option.bind_some, e4, bnd_some]
    by_cases z' : w' = 0
    · rw [if_neg (fun q => q z'), if_pos (by decide)]
      exact ⟨0, h4, rfl, mq_no C4 (fun q => absurd (w1'.mpr (q.1 2 (by decide))) (by rw [z']; decide))⟩
    · have f4 := w1'.mp (w_ne w01' z')
      obtain ⟨h5, e5, C5, v5, o5⟩ := cu_move 2 rfl (r := 4) (j := 2) C4 (Or.inl rfl) (by omega) fh.fn.nm v4 f4
      have S5 := C5.2.1.2.1
      obtain ⟨w'', h6, e6, C6, w01'', w1'', v6, o6⟩ := cu_slope 3 rfl (r := 4) (j := 3) C5 (Or.inl rfl) (by omega) n2 v5
      rw [if_pos z', st_g7 S4, Option.bind_some, st_gd S4, Option.bind_some, C4.2.2.2.1, eh, st_ck S4, Option.bind_some, e5, bnd_some, st_gd S5, Option.bind_some, st_gd S5, Option.bind_some, C5.2.2.2.1, et, eh, fop_ok n2, Option.bind_some, st_g7 S5, Option.bind_some, st_ck S5, Option.bind_some, e6, bnd_some]
      by_cases z'' : w'' = 0
      · rw [if_neg (fun q => q z''), if_pos (by decide)]
        exact ⟨0, h6, rfl, mq_no C6 (fun q => absurd (w1''.mpr (q.1 3 (by decide))) (by rw [z'']; decide))⟩
      · have f6 := w1''.mp (w_ne w01'' z'')
        rw [if_pos z'']
        have b0 : ∀ i, i < n → RV h6 (T + 11) i = fR h m l N t (RV h (T + 1)) i := fun i hi => by rw [cu_x C6 (by omega)]; exact hk i hi
        have b1 : ∀ i, i < n → RV h6 (T + 14) i = kA (fR h m l N) (hpI h (m + 2) l) t hf (RV h (T + 1)) i := fun i hi => by rw [o6 14 i14 (by omega), o5 14 i14 (by omega), o4 14 i14 (by omega), o3 14 i14 (by omega)]; exact v2 i hi
        have b2 : ∀ i, i < n → RV h6 (T + 17) i = k3F (fR h m l N) (hpI h (m + 2) l) t hf (RV h (T + 1)) i := fun i hi => by rw [o6 17 i17 (by omega), o5 17 i17 (by omega)]; exact v4 i hi
        obtain ⟨h7, e7, C7, v7, o7⟩ := c_fourth_107 (κ1 := kA (fR h m l N) (hpI h (m + 2) l) t hf (RV h (T + 1))) (κ2 := k3F (fR h m l N) (hpI h (m + 2) l) t hf (RV h (T + 1))) C6 eh fh b0 b1 b2 v6 fk f2 f4 f6
        rw [e7]
        refine ⟨1, h7, rfl, C7.2.1, C7.2.2.1, C7.2.2.2.1, by rw [C7.2.2.2.2], Or.inr rfl, ⟨fun _ => ⟨fun j hj i hi => ?_, fun q => absurd q (by decide), fun q => absurd q (by decide)⟩, fun _ => rfl⟩, fun _ => ⟨fun j hj i hi => ?_, v7, fun q => absurd q (by decide), by rw [C7.2.2.2.2, eg]; rfl⟩⟩
        · have : j < 4 := hj
          rcases (by omega : j = 0 ∨ j = 1 ∨ j = 2 ∨ j = 3) with rfl | rfl | rfl | rfl
          · exact fk i hi
          · exact f2 i hi
          · exact f4 i hi
          · exact f6 i hi
        · have : j < 4 := hj
          rcases (by omega : j = 0 ∨ j = 1 ∨ j = 2 ∨ j = 3) with rfl | rfl | rfl | rfl
          · show RV h7 (T + 11) i = _; rw [o7 11 i11 (by omega)]; exact b0 i hi
          · show RV h7 (T + 14) i = _; rw [o7 14 i14 (by omega)]; exact b1 i hi
          · show RV h7 (T + 17) i = _; rw [o7 17 i17 (by omega)]; exact b2 i hi
          · show RV h7 (T + 20) i = _; rw [o7 20 i20 (by omega)]; exact v6 i hi
theorem c_pair_228 {h0 h : Hp} {m l n ns N k L sg T : Nat} {hf : UInt64} {κ0 κ1 κ2 κ3 : Nat → UInt64} (C : CU h0 h m l n ns N k L sg T) (eh : hpD h0 T 4 = hf) (fh : HB hf) (v0 : ∀ i, i < n → RV h (T + 11) i = κ0 i) (v1 : ∀ i, i < n → RV h (T + 14) i = κ1 i) (v2 : ∀ i, i < n → RV h (T + 17) i = κ2 i) (v3 : ∀ i, i < n → RV h (T + 20) i = κ3 i) (f0 : ∀ i, i < n → Fn (κ0 i)) (f1 : ∀ i, i < n → Fn (κ1 i)) (f2 : ∀ i, i < n → Fn (κ2 i)) (f3 : ∀ i, i < n → Fn (κ3 i)) :
    ∃ w h', f_X6_pair_228 fuelN (some T) 0 h = some (w, h') ∧ CU h0 h' m l n ns N k L sg T ∧ (w = 0 ∨ w = 1) ∧ (w = 1 ↔ ∀ i, i < n → Fn (cn (FP.dmul (FP.ddiv hf c72) (spe κ0 κ1 κ2 κ3 i)))) ∧ (∀ i, i < n → RV h' (T + 23) i = cn (FP.dmul (FP.ddiv hf c72) (spe κ0 κ1 κ2 κ3 i))) ∧ ∀ q, IsR q → q ≠ 23 → RV h' (T + q) = RV h (T + q) := by
  have hn := wt_n C.1
  have nd : Nm (FP.ddiv hf 4634766966517661696) := (hb_div fh ky_c72 (by omega)).fn.nm
  obtain ⟨h', e, C', v, -, o⟩ := cu_loop (fun fuel i hh => f_X6_pair_228 fuel (some T) i hh) (res := fun hh => bnd (f_X3_isFinite (T + 23) (nI n) hh) fun x7 h8 => if x7 = 0 ∨ x7 = 1 then some (x7, h8) else none) (a := 0) (b := n) (fun i => cn (FP.dmul (FP.ddiv hf c72) (spe κ0 κ1 κ2 κ3 i))) C m23 (by omega) hn (by
    intro fuel i hi _ hin Ci oi
    have Wi := Ci.2.1
    have a0 := kn_of (oi 11 i11 (by omega)) (v0 i hin) (f0 i hin)
    have a1 := kn_of (oi 14 i14 (by omega)) (v1 i hin) (f1 i hin)
    have a2 := kn_of (oi 17 i17 (by omega)) (v2 i hin) (f2 i hin)
    have a3 := kn_of (oi 20 i20 (by omega)) (v3 i hin) (f3 i hin)
    have n0 : Nm (FP.dmul 4617315517961601024 (κ0 i)) := mul_nm fn_c5 (f0 i hin)
    have n1 : Nm (FP.dmul 4618441417868443648 (κ1 i)) := mul_nm fn_c6 (f1 i hin)
    have n2 : Nm (FP.dmul 4620693217682128896 (κ2 i)) := mul_nm fn_c8 (f2 i hin)
    have n3 : Nm (FP.dmul 4621256167635550208 (κ3 i)) := mul_nm fn_c9 (f3 i hin)
    have s1 := ev_op (op := FP.dadd) hop_add (c := FP.dmul 4620693217682128896 (κ2 i)) (ev_num n1)
    have s2 := ev_op (op := FP.dsub) hop_sub (c := FP.dmul 4617315517961601024 (κ0 i)) s1
    have s3 := ev_op (op := FP.dsub) hop_sub (c := FP.dmul 4621256167635550208 (κ3 i)) s2
    have s4 := ev_op' (op := FP.dmul) hop_mul (c := FP.ddiv hf 4634766966517661696) s3
    have d4 : hpD hi T 4 = hf := by rw [Ci.2.2.2.1, eh]
    refine ⟨fg (fg (fg (fg 0 (FP.dadd (FP.dmul 4618441417868443648 (κ1 i)) (FP.dmul 4620693217682128896 (κ2 i)))) (FP.dsub (nz (FP.dadd (FP.dmul 4618441417868443648 (κ1 i)) (FP.dmul 4620693217682128896 (κ2 i)))) (FP.dmul 4617315517961601024 (κ0 i)))) (FP.dsub (nz (FP.dsub (nz (FP.dadd (FP.dmul 4618441417868443648 (κ1 i)) (FP.dmul 4620693217682128896 (κ2 i)))) (FP.dmul 4617315517961601024 (κ0 i)))) (FP.dmul 4621256167635550208 (κ3 i)))) (FP.dmul (FP.ddiv hf 4634766966517661696) (nz (FP.dsub (nz (FP.dsub (nz (FP.dadd (FP.dmul 4618441417868443648 (κ1 i)) (FP.dmul 4620693217682128896 (κ2 i)))) (FP.dmul 4617315517961601024 (κ0 i)))) (FP.dmul 4621256167635550208 (κ3 i))))), ?_⟩
    show f_X6_pair_228 (fuel + 1) (some T) (nI i) hi = f_X6_pair_228 fuel (some T) (nI (i + 1)) _
    rw [f_X6_pair_228, st_g1 Wi.2.1, Option.bind_some, wt_gn Wi, Option.bind_some, if_neg (by rw [ni_le (by omega) (by omega)]; omega)]
    simp only [st_g0 Wi.2.1, Option.bind_some, rk_ck Wi.1.1, c_begin' Wi.1.1, bnd_some, wl_g0 Wi, wl_g9 Wi, wl_k0 Wi, wl_k1 Wi, wl_k2 Wi, wl_k3 Wi, wl_r Wi i11, wl_r Wi i14, wl_r Wi i17, wl_r Wi i20, wl_d Wi i11 (show i < 6 by omega), wl_d Wi i14 (show i < 6 by omega), wl_d Wi i17 (show i < 6 by omega), wl_d Wi i20 (show i < 6 by omega), a0, a1, a2, a3, fop_ok n0, fop_ok n1, fop_ok n2, fop_ok n3, wl_kc Wi, c_sum Wi.1.1 n1 n2, c_difference Wi.1.1 s1.nm n0, c_difference Wi.1.1 s2.nm n3, wl_gd Wi, d4, fop_ok nd, c_product Wi.1.1 nd s3.nm, wl_g10 Wi, wl_gf Wi, wl_rc Wi i23, c_put (st_r (show ST (stI hi k 1 _) T k L from Wi.2.1) i23) (show i < 6 by omega) (by omega) s4]
    rw [li1, ni_add, pV_false, spe, cn_nm n0, cn_nm n1, cn_nm n2, cn_nm n3]) (fun i _ _ => cv_cn _) (by
    intro fuel hi Wi
    show f_X6_pair_228 (fuel + 1) (some T) (nI n) hi = _
    rw [f_X6_pair_228, st_g1 Wi.2.1, Option.bind_some, wt_gn Wi, Option.bind_some, if_pos ((ni_le (by omega) (by omega)).mpr (Nat.le_refl _)), st_g10 Wi.2.1, Option.bind_some, Option.bind_some, wt_gn Wi, Option.bind_some, rw_ck (st_r Wi.2.1 i23), Option.bind_some])
  obtain ⟨w, r3, w01, w1⟩ := c_isFinite (st_r C'.2.1.2.1 i23) (C'.2.1.2.2.1 _ i23) hn (by omega)
  have e' : f_X6_pair_228 fuelN (some T) 0 h = _ := e
  refine ⟨w, h', ?_, C', w01, w1.trans ⟨fun z i hi => by rw [← v i (by omega) hi]; exact z i hi, fun z i hi => by rw [v i (by omega) hi]; exact z i hi⟩, fun i hi => v i (by omega) hi, o⟩
  rw [e', r3, bnd_some, if_pos w01]
theorem c_pair {h : Hp} {m l n ns N k L sg T : Nat} {t hf : UInt64} (M0 : MS h m l n ns N k L sg T t hf) : ∃ w h', f_X6_pair T h = some (w, h') ∧ MQc h h' w m l n ns N k L sg T 4 t hf := by
  obtain ⟨W, et, eh, eg, nt, fh, hk, fk⟩ := M0
  have hn := wt_n W
  have C := cu_refl W
  have ng : Nm (FP.ddiv hf 4611686018427387904) := (fn_half fh).nm
  have nd1 : Nm (FP.dmul 4613937818241073152 hf) := mul_nm fn_c3 fh.fn
  have fd : Fn (FP.ddiv (FP.dmul 4613937818241073152 hf) 4616189618054758400) := fn_dP fh
  have n9 : Nm (FP.ddiv hf 4621256167635550208) := (hb_div fh ky_c9 (by omega)).fn.nm
  obtain ⟨h1, e1, C1, v1, o1⟩ := cu_move 0 rfl (r := 4) (j := 0) C (Or.inl rfl) (by omega) ng hk fk
  have n1 : Nm (FP.dadd t (FP.ddiv hf 4611686018427387904)) := add_nm2 nt (fn_half fh)
  have n2 : Nm (FP.dadd t hf) := add_nm2 nt fh.fn
  have n3 : Nm (FP.dadd t (FP.ddiv (FP.dmul 4613937818241073152 hf) 4616189618054758400)) := add_nm2 nt fd
  obtain ⟨w, h2, e2, C2, w01, w1, v2, o2⟩ := cu_slope 1 rfl (r := 4) (j := 1) C1 (Or.inl rfl) (by omega) n1 v1
  have S1 := C1.2.1.2.1
  have S2 := C2.2.1.2.1
  unfold f_X6_pair
  rw [st_gd W.2.1, Option.bind_some, eh, fop_ok ng, Option.bind_some, st_g7 W.2.1, Option.bind_some, st_ck W.2.1, Option.bind_some, e1, bnd_some, st_gd S1, Option.bind_some, C1.2.2.2.1, et, fop_ok n1, Option.bind_some, st_g7 S1, Option.bind_some, st_ck S1, Option.bind_some, e2, bnd_some]
  by_cases z : w = 0
  · rw [if_neg (fun q => q z), if_pos (by decide)]
    exact ⟨0, h2, rfl, mq_no C2 (fun q => absurd (w1.mpr (q.1 1 (by decide))) (by rw [z]; decide))⟩
  · have f2 := w1.mp (w_ne w01 z)
    obtain ⟨h3, e3, C3, v3, o3⟩ := cu_move 1 rfl (r := 4) (j := 1) C2 (Or.inl rfl) (by omega) fd.nm v2 f2
    have S3 := C3.2.1.2.1
    obtain ⟨w', h4, e4, C4, w01', w1', v4, o4⟩ := cu_slope 2 rfl (r := 4) (j := 2) C3 (Or.inl rfl) (by omega) n3 v3
    have S4 := C4.2.1.2.1
    rw [if_pos z, st_gd S2, Option.bind_some, C2.2.2.2.1, eh, fop_ok nd1, Option.bind_some, fop_ok fd.nm, Option.bind_some, st_g7 S2, Option.bind_some, st_ck S2, Option.bind_some, e3, bnd_some, st_gd S3, Option.bind_some, C3.2.2.2.1, et, fop_ok n3, Option.bind_some, st_g7 S3, Option.bind_some, st_ck S3, Option.bind_some, e4, bnd_some]
    by_cases z' : w' = 0
    · rw [if_neg (fun q => q z'), if_pos (by decide)]
      exact ⟨0, h4, rfl, mq_no C4 (fun q => absurd (w1'.mpr (q.1 2 (by decide))) (by rw [z']; decide))⟩
    · have f4 := w1'.mp (w_ne w01' z')
      rw [if_pos z']
      have k0 : ∀ i, i < n → RV h4 (T + 11) i = fR h m l N t (RV h (T + 1)) i := fun i hi => by rw [cu_x C4 (by omega)]; exact hk i hi
      have k1 : ∀ i, i < n → RV h4 (T + 14) i = kA (fR h m l N) (hpI h (m + 2) l) t hf (RV h (T + 1)) i := fun i hi => by rw [o4 14 i14 (by omega), o3 14 i14 (by omega)]; exact v2 i hi
      have k2 : ∀ i, i < n → RV h4 (T + 17) i = k3P (fR h m l N) (hpI h (m + 2) l) t hf (RV h (T + 1)) i := v4
      have f2' : ∀ i, i < n → Fn (kA (fR h m l N) (hpI h (m + 2) l) t hf (RV h (T + 1)) i) := f2
      have f4' : ∀ i, i < n → Fn (k3P (fR h m l N) (hpI h (m + 2) l) t hf (RV h (T + 1)) i) := f4
      generalize hκ0 : fR h m l N t (RV h (T + 1)) = κ0 at k0 fk
      generalize hκ1 : kA (fR h m l N) (hpI h (m + 2) l) t hf (RV h (T + 1)) = κ1 at k1 f2'
      generalize hκ2 : k3P (fR h m l N) (hpI h (m + 2) l) t hf (RV h (T + 1)) = κ2 at k2 f4'
      obtain ⟨h5, e5, C5, v5, -, o5⟩ := cu_loop (fun fuel i hh => f_X6_pair_85 fuel (some T) i hh) (res := fun hh => (getD hh (some T) 6 3).bind fun x4 =>
        (getD hh (some T) 6 4).bind fun x5 =>
        (fop (FP.dadd x4 x5)).bind fun x6 =>
        (getR hh (some T) 6 8).bind fun x7 =>
        (ab_ck hh (some T) (6, 0)).bind fun a11 =>
        bnd (f_X6_slope a11 3 x6 x7 hh) fun x8 h9 =>
        if ¬ x8 = 0 then
          f_X6_pair_228 fuelN (some T) 0 h9
        else
          if 0 = 0 ∨ 0 = 1 then some (0, h9) else none) (a := 0) (b := n) (mvV (hpI h (m + 2) l) (RV h (T + 1)) (FP.ddiv hf c9) (spz κ0 κ1 κ2)) C4 m7 (by omega) hn (by
        intro fuel i hi _ hin Ci oi
        have Wi := Ci.2.1
        have a0 := kn_of (oi 11 i11 (by omega)) (k0 i hin) (fk i hin)
        have a1 := kn_of (oi 14 i14 (by omega)) (k1 i hin) (f2' i hin)
        have a2 := kn_of (oi 17 i17 (by omega)) (k2 i hin) (f4' i hin)
        have q0 : Nm (FP.dmul 4611686018427387904 (κ0 i)) := mul_nm fn_c2 (fk i hin)
        have q1 : Nm (FP.dmul 4613937818241073152 (κ1 i)) := mul_nm fn_c3 (f2' i hin)
        have q2 : Nm (FP.dmul 4616189618054758400 (κ2 i)) := mul_nm fn_c4 (f4' i hin)
        have s1 := ev_op (op := FP.dadd) hop_add (c := FP.dmul 4613937818241073152 (κ1 i)) (ev_num q0)
        have s2 := ev_op (op := FP.dadd) hop_add (c := FP.dmul 4616189618054758400 (κ2 i)) s1
        obtain ⟨f, e⟩ := c_arrive (h := hi) (i := i) (r := 7) (s := 1) Wi i7 i1 (by omega) n9 s2
        refine ⟨f, ?_⟩
        rw [cu_nar Ci, cu_x Ci (Or.inl rfl)] at e
        have d4 : hpD hi T 4 = hf := by rw [Ci.2.2.2.1, eh]
        show f_X6_pair_85 (fuel + 1) (some T) (nI i) hi = f_X6_pair_85 fuel (some T) (nI (i + 1)) _
        rw [f_X6_pair_85, st_g1 Wi.2.1, Option.bind_some, wt_gn Wi, Option.bind_some, if_neg (by rw [ni_le (by omega) (by omega)]; omega)]
        simp only [st_g0 Wi.2.1, Option.bind_some, rk_ck Wi.1.1, c_begin' Wi.1.1, bnd_some, wl_g0 Wi, wl_g9 Wi, wl_k0 Wi, wl_k1 Wi, wl_k2 Wi, wl_r Wi i11, wl_r Wi i14, wl_r Wi i17, wl_d Wi i11 (show i < 6 by omega), wl_d Wi i14 (show i < 6 by omega), wl_d Wi i17 (show i < 6 by omega), a0, a1, a2, fop_ok q0, fop_ok q1, fop_ok q2, wl_kc Wi, c_sum Wi.1.1 q0 q1, c_sum Wi.1.1 s1.nm q2, wl_g8 Wi, wl_g6 Wi, wl_gd Wi, d4, fop_ok n9, wl_tc Wi, e]
        rw [li1, ni_add, mvV, spz, cn_nm q0, cn_nm q1, cn_nm q2]) (fun i _ _ => cv_mvV _ _ _ _ _) (by
        intro fuel hi Wi
        show f_X6_pair_85 (fuel + 1) (some T) (nI n) hi = _
        rw [f_X6_pair_85, st_g1 Wi.2.1, Option.bind_some, wt_gn Wi, Option.bind_some, if_pos ((ni_le (by omega) (by omega)).mpr (Nat.le_refl _))])
      have e5' : f_X6_pair_85 fuelN (some T) 0 h4 = _ := e5
      rw [e5']
      have S5 := C5.2.1.2.1
      have v5' : ∀ i, i < n → RV h5 (T + 7) i = zP (fR h m l N) (hpI h (m + 2) l) t hf (RV h (T + 1)) i := fun i hi => by
        rw [v5 i (by omega) hi, ← hκ0, ← hκ1, ← hκ2]; rfl
      obtain ⟨w'', h6, e6, C6, w01'', w1'', v6, o6⟩ := cu_slope 3 rfl (r := 7) (j := 3) C5 (Or.inr rfl) (by omega) n2 v5'
      rw [st_gd S5, Option.bind_some, st_gd S5, Option.bind_some, C5.2.2.2.1, et, eh, fop_ok n2, Option.bind_some, st_g8 S5, Option.bind_some, st_ck S5, Option.bind_some, e6, bnd_some]
      by_cases z'' : w'' = 0
      · rw [if_neg (fun q => q z''), if_pos (by decide)]
        exact ⟨0, h6, rfl, mq_no C6 (fun q => absurd (w1''.mpr (q.1 3 (by decide))) (by rw [z'']; decide))⟩
      · have f6 := w1''.mp (w_ne w01'' z'')
        rw [if_pos z'']
        have b0 : ∀ i, i < n → RV h6 (T + 11) i = κ0 i := fun i hi => by rw [o6 11 i11 (by omega), o5 11 i11 (by omega)]; exact k0 i hi
        have b1 : ∀ i, i < n → RV h6 (T + 14) i = κ1 i := fun i hi => by rw [o6 14 i14 (by omega), o5 14 i14 (by omega)]; exact k1 i hi
        have b2 : ∀ i, i < n → RV h6 (T + 17) i = κ2 i := fun i hi => by rw [o6 17 i17 (by omega), o5 17 i17 (by omega)]; exact k2 i hi
        obtain ⟨w3, h7, e7, C7, x01, x1, v7, o7⟩ := c_pair_228 C6 eh fh b0 b1 b2 v6 fk f2' f4' f6
        rw [e7]
        have ee : ∀ i, cn (FP.dmul (FP.ddiv hf c72) (spe κ0 κ1 κ2 (fR h m l N (FP.dadd t hf) (zP (fR h m l N) (hpI h (m + 2) l) t hf (RV h (T + 1)))) i)) = eP (fR h m l N) (hpI h (m + 2) l) t hf (RV h (T + 1)) i := fun i => by rw [← hκ0, ← hκ1, ← hκ2]; rfl
        refine ⟨w3, h7, rfl, C7.2.1, C7.2.2.1, C7.2.2.2.1, by rw [C7.2.2.2.2], x01, ⟨fun zz => ⟨fun j hj i hi => ?_, fun q => absurd q (by decide), fun _ i hi => by rw [← ee i]; exact x1.mp zz i hi⟩, fun zz => x1.mpr (fun i hi => by rw [ee i]; exact zz.2.2 rfl i hi)⟩, fun _ => ⟨fun j hj i hi => ?_, fun i hi => ?_, fun _ i hi => by rw [v7 i hi, ee i], by rw [C7.2.2.2.2, eg]; rfl⟩⟩
        · have : j < 4 := hj
          rcases (by omega : j = 0 ∨ j = 1 ∨ j = 2 ∨ j = 3) with rfl | rfl | rfl | rfl
          · show Fn (fR h m l N t (RV h (T + 1)) i); rw [hκ0]; exact fk i hi
          · exact f2 i hi
          · exact f4 i hi
          · exact f6 i hi
        · have : j < 4 := hj
          rcases (by omega : j = 0 ∨ j = 1 ∨ j = 2 ∨ j = 3) with rfl | rfl | rfl | rfl
          · show RV h7 (T + 11) i = fR h m l N t (RV h (T + 1)) i; rw [o7 11 i11 (by omega), hκ0]; exact b0 i hi
          · show RV h7 (T + 14) i = kA (fR h m l N) (hpI h (m + 2) l) t hf (RV h (T + 1)) i; rw [o7 14 i14 (by omega), hκ1]; exact b1 i hi
          · show RV h7 (T + 17) i = k3P (fR h m l N) (hpI h (m + 2) l) t hf (RV h (T + 1)) i; rw [o7 17 i17 (by omega), hκ2]; exact b2 i hi
          · show RV h7 (T + 20) i = _; rw [o7 20 i20 (by omega)]; exact v6 i hi
        · show RV h7 (T + 7) i = zP (fR h m l N) (hpI h (m + 2) l) t hf (RV h (T + 1)) i; rw [o7 7 i7 (by omega), o6 7 i7 (by omega)]; exact v5' i hi
