/-! ===== the law's loop ===== -/
theorem ck_get {β : Type} {h : Hp} {m c : Nat} {f : Nat → Option β} {r : β} (e : (ab_ck h (some m) (c, 0)).bind f = some r) : hpK h m = some (c, 0) := by
  by_cases z : hpK h m = some (c, 0)
  · exact z
  · have : ab_ck h (some m) (c, 0) = none := by unfold ab_ck; rw [Option.bind_some, if_neg z]
    rw [this] at e
    cases e
theorem getI_get {β : Type} {h : Hp} {m c k : Nat} {f : Int32 → Option β} {r : β} (e : (getI h (some m) c k).bind f = some r) : hpK h m = some (c, 0) := by
  by_cases z : hpK h m = some (c, 0)
  · exact z
  · have : getI h (some m) c k = none := by unfold getI ab_ck; rw [Option.bind_some, if_neg z]; rfl
    rw [this] at e
    cases e
theorem same_h {α : Type} {a b : α} {h h1 : Hp} {m : Nat} {kd : Nat × Nat} (e : some (a, h) = some (b, h1)) (K : hpK h m = some kd) : hpK h1 m = some kd := by
  have : h = h1 := (Prod.mk.inj (Option.some.inj e)).2
  rw [← this]; exact K
theorem lg_self (x : Int64) : lg_cmp x x = 0 := by
  unfold lg_cmp
  rw [if_neg (fun z : x > x => Int64.lt_irrefl z), if_pos rfl]
theorem k9_law {h h1 h2 : Hp} {c m : Nat} {p0 p1 a a' : Int32} (K : hpK h m = some (9, 0)) (e1 : f_X8_law c p0 p1 h = some (a, h1)) (e2 : f_X9_law m p0 p1 h1 = some (a', h2)) : hpK h1 m = some (9, 0) := by
  unfold f_X8_law f_X8_law_17 at e1
  unfold f_X9_law at e2
  by_cases z1 : p0 < 1
  · rw [if_pos z1] at e1; exact same_h e1 K
  · by_cases z2 : 6 < p0
    · rw [if_neg z1, if_pos z2] at e1; exact same_h e1 K
    · by_cases z3 : p1 >>> (p0 &&& 31) = 0
      · have y1 := Int32.not_lt.mp z1
        have y2 := Int32.not_lt.mp z2
        have z4 : ¬ p1 < 0 := fun z => by
          rcases in_cases p0 (N := 7) (by omega) with ⟨n, hn, rfl⟩ | hv
          · exact shr_neg (by omega) z z3
          · rw [Int32.lt_iff_toInt_lt, Int32.le_iff_toInt_le, ni_toInt (by omega)] at hv
            rw [Int32.le_iff_toInt_le] at y1 y2
            have q0 : (0 : Int32).toInt = 0 := by decide
            have q1 : (1 : Int32).toInt = 1 := by decide
            have q6 : (6 : Int32).toInt = 6 := by decide
            omega
        rw [r_in, if_pos ⟨y1, y2⟩, bnd_some, if_neg (by decide), if_neg z4, if_pos z3] at e2
        exact getI_get e2
      · rw [if_neg z1, if_neg z2, if_neg z3] at e1; exact same_h e1 K
theorem k9_signal {h h1 h2 : Hp} {c m : Nat} {p0 a a' : Int32} (K : hpK h m = some (9, 0)) (e1 : f_X8_signal c p0 h = some (a, h1)) (e2 : f_X9_signal m p0 h1 = some (a', h2)) : hpK h1 m = some (9, 0) := by
  unfold f_X8_signal f_X8_signal_9 at e1
  unfold f_X9_signal at e2
  by_cases z1 : p0 < 0
  · rw [if_pos z1] at e1; exact same_h e1 K
  · by_cases z2 : p0 ≤ 1
    · rw [r_in, if_pos ⟨Int32.not_lt.mp z1, z2⟩, bnd_some, if_pos (by decide)] at e2
      exact getI_get e2
    · rw [if_neg z1, if_neg z2] at e1; exact same_h e1 K
theorem k9_many {h h1 h2 : Hp} {c m : Nat} {p0 a a' : Int32} (K : hpK h m = some (9, 0)) (e1 : f_X8_many c p0 h = some (a, h1)) (e2 : f_X9_many m p0 h1 = some (a', h2)) : hpK h1 m = some (9, 0) := by
  unfold f_X8_many f_X8_many_10 at e1
  unfold f_X9_many at e2
  by_cases z1 : p0 < 0
  · rw [if_pos z1] at e1; exact same_h e1 K
  · by_cases z2 : p0 ≤ 10
    · rw [r_in, if_pos ⟨Int32.not_lt.mp z1, z2⟩, bnd_some, if_pos (by decide)] at e2
      by_cases w0 : p0 = 0
      · rw [if_neg (fun z => z w0)] at e2; exact getI_get e2
      · by_cases w1 : p0 = 1
        · rw [if_pos w0, if_neg (fun z => z w1)] at e2; exact getI_get e2
        · by_cases w2 : p0 = 2
          · rw [if_pos w0, if_pos w1, if_neg (fun z => z w2)] at e2; exact getI_get e2
          · rw [if_pos w0, if_pos w1, if_pos w2] at e2; exact getI_get e2
    · rw [if_neg z1, if_neg z2] at e1; exact same_h e1 K
theorem inv_K {b : Nat} {h : Hp} {c : Nat} (I : INV b h c) : hpK h c = some (8, 0) ∧ hpK h (c + 66) = some (9, 0) := by
  obtain ⟨nl, ns, nr, Lw, nv, nn, Ob, ex, rl, Rc, τ, I⟩ := I
  exact ⟨I.1.1.1, ro_K I.1.2.2.2.2.2.2.2⟩
theorem sub7 {L : Nat} (hL : L ≤ 448) : (Int32.ofNat L - 7).toInt = (L : Int) - 7 := by
  have := (by decide +kernel : ∀ i : Fin 449, (Int32.ofNat i.1 - 7).toInt = (i.1 : Int) - 7) ⟨L, by omega⟩
  exact this
theorem sub7_lt {L k : Nat} (hL : L ≤ 448) (hk : k < 1000) : (Int32.ofNat L - 7 < nI k) ↔ L < k + 7 := by
  rw [Int32.lt_iff_toInt_lt, sub7 hL, ni_toInt (by omega)]
  omega
theorem scr_ok {xs : Nat → Int32} {L i : Nat} (hi : i < L) (hL : L ≤ 448) : scr xs L (nI i) = some (xs i) := by
  unfold scr
  rw [ni_cl (by omega), if_neg]
  rintro (z | z)
  · rw [li0, ni_lt (by omega) (by omega)] at z; omega
  · omega
theorem lw_pre {xs : Nat → Int32} {L b : Nat} (hL : L ≤ 448) (hb : 7 * b + 7 ≤ L) : ¬ (Int32.ofNat L - 7 < nI (7 * b)) ∧ scr xs L (nI (7 * b)) = some (xs (7 * b)) ∧ scr xs L (nI (7 * b) + 1) = some (xs (7 * b + 1)) ∧ scr xs L (nI (7 * b) + 2) = some (xs (7 * b + 2)) ∧ scr xs L (nI (7 * b) + 3) = some (xs (7 * b + 3)) ∧ scr xs L (nI (7 * b) + 4) = some (xs (7 * b + 4)) ∧ scr xs L (nI (7 * b) + 5) = some (xs (7 * b + 5)) ∧ scr xs L (nI (7 * b) + 6) = some (xs (7 * b + 6)) ∧ nI (7 * b) + 7 = nI (7 * (b + 1)) := by
  refine ⟨by rw [sub7_lt hL (by omega)]; omega, scr_ok (by omega) hL, ?_, ?_, ?_, ?_, ?_, ?_, ?_⟩
  · rw [li1, ni_add]; exact scr_ok (by omega) hL
  · rw [li2, ni_add]; exact scr_ok (by omega) hL
  · rw [li3, ni_add]; exact scr_ok (by omega) hL
  · rw [li4, ni_add]; exact scr_ok (by omega) hL
  · rw [li5, ni_add]; exact scr_ok (by omega) hL
  · rw [li6, ni_add]; exact scr_ok (by omega) hL
  · rw [li7, ni_add]; congr 1
