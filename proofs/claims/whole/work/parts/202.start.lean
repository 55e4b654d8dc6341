def hp0 (sz : Nat) : Hp := (sz, fun _ => none, fun _ _ => 0, fun _ _ => 0, fun _ _ => none)
set_option maxHeartbeats 4000000 in
set_option maxRecDepth 100000 in
/-- the tables and the statics at the start -/
theorem law_T {s : State} {b : Nat} (hts : ∀ w ∈ lw_tbl, w.before #[Value.ref b] s = true) (hgv : (Jvm.Cond.and given_1 narrow_1).before #[Value.ref b] s = true) : ∃ (D : va_G) (cA : Nat → ClassId), ab_T D cA s.heap.size s := by
  obtain ⟨c0, i0, k0⟩ := u_known (C := RX0) (T := TX0) (N := 9) (n := 9) hts (fun w h => wsL_law_in w (inlX0 w h)) (hts _ (wsL_law_in _ ln_RX0_9))
  obtain ⟨c1, i1, k1⟩ := u_known (C := RX1) (T := TX1) (N := 14) (n := 14) hts (fun w h => wsL_law_in w (inlX1 w h)) (hts _ (wsL_law_in _ ln_RX1_14))
  obtain ⟨c2, i2, k2⟩ := u_known (C := RX2) (T := TX2) (N := 2) (n := 2) hts (fun w h => wsL_law_in w (inlX2 w h)) (hts _ (wsL_law_in _ ln_RX2_2))
  obtain ⟨c3, i3, k3⟩ := u_known (C := RX3) (T := TX3) (N := 2) (n := 2) hts (fun w h => wsL_law_in w (inlX3 w h)) (hts _ (wsL_law_in _ ln_RX3_2))
  obtain ⟨c4, i4, k4⟩ := u_known (C := RX4) (T := TX4) (N := 12) (n := 12) hts (fun w h => wsL_law_in w (inlX4 w h)) (hts _ (wsL_law_in _ ln_RX4_12))
  obtain ⟨c5, i5, k5⟩ := u_known (C := RX5) (T := TX5) (N := 4) (n := 4) hts (fun w h => wsL_law_in w (inlX5 w h)) (hts _ (wsL_law_in _ ln_RX5_4))
  obtain ⟨c6, i6, k6⟩ := u_known (C := RX6) (T := TX6) (N := 14) (n := 14) hts (fun w h => wsL_law_in w (inlX6 w h)) (hts _ (wsL_law_in _ ln_RX6_14))
  obtain ⟨c7, i7, k7⟩ := u_known (C := RX7) (T := TX7) (N := 1) (n := 1) hts (fun w h => wsL_law_in w (inlX7 w h)) (hts _ (wsL_law_in _ ln_RX7_1))
  obtain ⟨c8, i8, k8⟩ := u_known (C := RX8) (T := TX8) (N := 11) (n := 11) hts (fun w h => wsL_law_in w (inlX8 w h)) (hts _ (wsL_law_in _ ln_RX8_11))
  obtain ⟨c9, i9, k9⟩ := u_known (C := RX9) (T := TX9) (N := 62) (n := 62) hts (fun w h => wsL_law_in w (inlX9 w h)) (hts _ (wsL_law_in _ ln_RX9_62))
  obtain ⟨a10, ka10, m10, f10, g10, e10⟩ := Cond.arrayClass_spec (hts _ (wsL_law_in _ la_double))
  obtain ⟨a11, ka11, m11, f11, g11, e11⟩ := Cond.arrayClass_spec (hts _ (wsL_law_in _ la_int))
  obtain ⟨a12, ka12, m12, f12, g12, e12⟩ := Cond.arrayClass_spec (hts _ (wsL_law_in _ la_boolean))
  have ho13 : (Cond.arrayOver (.object RX1)).before #[Value.ref b] s = true := hts _ (in_t1 _ (List.mem_of_getElem? (i := 52) rfl))
  obtain ⟨m13, a13, ka13, f13, -, g13, e13, n13⟩ := Cond.arrayOver_spec ho13
  have ho14 : (Cond.arrayOver (.object RX3)).before #[Value.ref b] s = true := hts _ (in_t1 _ (List.mem_of_getElem? (i := 87) rfl))
  obtain ⟨m14, a14, ka14, f14, -, g14, e14, n14⟩ := Cond.arrayOver_spec ho14
  have ho15 : (Cond.arrayOver (.object RX4)).before #[Value.ref b] s = true := hts _ (in_t1 _ (List.mem_of_getElem? (i := 56) rfl))
  obtain ⟨m15, a15, ka15, f15, -, g15, e15, n15⟩ := Cond.arrayOver_spec ho15
  have ho16 : (Cond.arrayOver (.object RX5)).before #[Value.ref b] s = true := hts _ (in_t1 _ (List.mem_of_getElem? (i := 54) rfl))
  obtain ⟨m16, a16, ka16, f16, -, g16, e16, n16⟩ := Cond.arrayOver_spec ho16
  refine ⟨(fun k => if k = 0 then c0 else if k = 1 then c1 else if k = 2 then c2 else if k = 3 then c3 else if k = 4 then c4 else if k = 5 then c5 else if k = 6 then c6 else if k = 7 then c7 else if k = 8 then c8 else c9, fun k => if k = 0 then i0 else if k = 1 then i1 else if k = 2 then i2 else if k = 3 then i3 else if k = 4 then i4 else if k = 5 then i5 else if k = 6 then i6 else if k = 7 then i7 else if k = 8 then i8 else i9), fun k => if k = 10 then a10 else if k = 11 then a11 else if k = 12 then a12 else if k = 13 then a13 else if k = 14 then a14 else if k = 15 then a15 else a16, ⟨?_, ?_⟩, ?_, ⟨?_, ?_⟩, va_AO.of ho13, va_AO.of ho14, va_AO.of ho15, va_AO.of ho16⟩
  · intro k q hq
    match k, hq with
    | 0, hq => cases hq; exact k0
    | 1, hq => cases hq; exact k1
    | 2, hq => cases hq; exact k2
    | 3, hq => cases hq; exact k3
    | 4, hq => cases hq; exact k4
    | 5, hq => cases hq; exact k5
    | 6, hq => cases hq; exact k6
    | 7, hq => cases hq; exact k7
    | 8, hq => cases hq; exact k8
    | 9, hq => cases hq; exact k9
    | k + 10, hq => simp [vwCl] at hq
  · intro k q hq
    match k, hq with
    | 0, hq => cases hq; exact ⟨fun n z => ⟨fun k h => (by cases h), ka10, g10, m10, e10⟩, f10⟩
    | 1, hq => cases hq; exact ⟨fun n z => ⟨fun k h => (by cases h), ka11, g11, m11, e11⟩, f11⟩
    | 2, hq => cases hq; exact ⟨fun n z => ⟨fun k h => (by cases h), ka12, g12, m12, e12⟩, f12⟩
    | 3, hq => cases hq; exact ⟨fun n z => ⟨fun k h => (by cases h), ka13, g13, m13, e13⟩, ka13, m13, g13, e13, f13, n13⟩
    | 4, hq => cases hq; exact ⟨fun n z => ⟨fun k h => (by cases h), ka14, g14, m14, e14⟩, ka14, m14, g14, e14, f14, n14⟩
    | 5, hq => cases hq; exact ⟨fun n z => ⟨fun k h => (by cases h), ka15, g15, m15, e15⟩, ka15, m15, g15, e15, f15, n15⟩
    | 6, hq => cases hq; exact ⟨fun n z => ⟨fun k h => (by cases h), ka16, g16, m16, e16⟩, ka16, m16, g16, e16, f16, n16⟩
    | k + 7, hq => simp [ab_ts] at hq
  · have hs := flat_of_before _ hgv
    have harr : (Cond.arrayOf (.static "MotionStepper" "STAGES" "[I") .int).before #[Value.ref b] s = true := hs _ (by decide +kernel)
    have hlen : (Cond.eq (.length (.static "MotionStepper" "STAGES" "[I")) (.int 7)).before #[Value.ref b] s = true := hs _ (by decide +kernel)
    have he0 : (Cond.eq (.elem (.static "MotionStepper" "STAGES" "[I") (.int 0)) (.int 1)).before #[Value.ref b] s = true := hs _ (by decide +kernel)
    have he1 : (Cond.eq (.elem (.static "MotionStepper" "STAGES" "[I") (.int 1)) (.int 2)).before #[Value.ref b] s = true := hs _ (by decide +kernel)
    have he2 : (Cond.eq (.elem (.static "MotionStepper" "STAGES" "[I") (.int 2)) (.int 3)).before #[Value.ref b] s = true := hs _ (by decide +kernel)
    have he3 : (Cond.eq (.elem (.static "MotionStepper" "STAGES" "[I") (.int 3)) (.int 4)).before #[Value.ref b] s = true := hs _ (by decide +kernel)
    have he4 : (Cond.eq (.elem (.static "MotionStepper" "STAGES" "[I") (.int 4)) (.int 4)).before #[Value.ref b] s = true := hs _ (by decide +kernel)
    have he5 : (Cond.eq (.elem (.static "MotionStepper" "STAGES" "[I") (.int 5)) (.int 2)).before #[Value.ref b] s = true := hs _ (by decide +kernel)
    have he6 : (Cond.eq (.elem (.static "MotionStepper" "STAGES" "[I") (.int 6)) (.int 3)).before #[Value.ref b] s = true := hs _ (by decide +kernel)
    have hA : ∀ a : Nat, a < s.heap.size → ¬ s.heap.size ≤ a := fun a h => Nat.not_le.mpr h
    obtain ⟨t, ht, hTT⟩ := va_Tof (tm := .static "MotionStepper" "STAGES" "[I") (ty := .int) (N := 7) (f := ab_stg) (A := fun q => s.heap.size ≤ q) (by decide) harr (va_eqt hlen) (fun j hj => by
      match j, hj with
      | 0, _ => exact va_eqt he0
      | 1, _ => exact va_eqt he1
      | 2, _ => exact va_eqt he2
      | 3, _ => exact va_eqt he3
      | 4, _ => exact va_eqt he4
      | 5, _ => exact va_eqt he5
      | 6, _ => exact va_eqt he6
      | j + 7, hj => omega) hA
    exact ⟨t, va_Zref (hts _ (in_t4 _ (List.mem_of_getElem? (i := 29) rfl))) (hts _ (wsL_law_in _ lz_RX8)) ht hA, hTT⟩
  · exact va_Nw.of rfl (hts (.methodLinkNest RX1 109 yX8_size RX8) (in_t3 _ (List.mem_of_getElem? (i := 47) rfl)))
  · exact va_Nw.of rfl (hts (.methodLinkNest RX6 178 yX8_size RX8) (in_t3 _ (List.mem_of_getElem? (i := 134) rfl)))
set_option maxHeartbeats 4000000 in
set_option maxRecDepth 100000 in
/-- the law, from its entry, out of what it does to a heap of numbers -/
theorem whole_open (hlaw : ∀ (L sz : Nat) (xs : Nat → Int32), L ≤ 448 → ∃ hh, f_L_law xs L (hp0 sz) = some (1, hh)) {p : Program} {e : Env} {s : State} {m : MethodId} {below : List Frame} {meth : Method} {c : Code} (l : Launch) {b L : Nat} {xs : Nat → Int32} (hL : L ≤ 448) (C0 : lw_At p s m meth c b L xs) : W p l e room_1 s m #[Value.ref b] below meth c s.heap [] 0 0 (lw_Z below #[Value.ref b] s) (entryFrame m ([Value.ref b] : List Value).toArray 4) := by
  obtain ⟨hx, hb, hr, hml, hown, hts, hX, hbl, hlocks, hgv⟩ := C0
  obtain ⟨D, cA, hT⟩ := law_T hts hgv
  obtain ⟨hh, hF⟩ := hlaw L s.heap.size xs hL
  have X : ab_X p s m #[Value.ref b] meth c cL_law 4 RL D cA s.heap.size := ⟨hx, hb, hml, hown, fun w h => hts w (wsL_law_in w h), hT, hlocks, Nat.le_refl _⟩
  have S : ab_H D cA s.heap.size (hp0 s.heap.size) s s.heap [] := ⟨⟨rfl, Nat.le_refl _, fun a kd h => by cases h⟩, va_S.rf⟩
  obtain ⟨ls, hls, hl⟩ := ab_entry m [.ref b] 4 (lv := [(0, .ref b)]) (by simp [lg_sl, ab_cA]) (by simp [lv_args])
  rw [hls]
  exact w_L_law X hr hX hbl (Nat.not_le.mpr hbl) (Nat.le_refl _) S hl hF
