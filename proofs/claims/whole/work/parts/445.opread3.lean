def dR (f : Nat → Int32) : Nat → Nat → Int32
  | 0, _ => 0
  | j + 1, k => f k + dR f j (k + 1)
def uN (a b : UInt64) : Int32 := if lg_cmp (tell a) (tell b) = 0 then 0 else 1
theorem c_un {h : Hp} {c r q n1 n2 mn L1 L2 k1 : Nat} (X : XO h c) (te : TE h c) (B : RB h r k1) (B2 : RB h q k1) (N1 : RN h (r + 1) 6) (N2 : RN h (q + 1) 6) (l1 : hpR h r 0 = some L1) (l2 : hpR h q 0 = some L2) (e1 : hpI h L1 1 = nI n1) (e2 : hpI h L2 1 = nI n2) (K1 : hpK h L1 = some (1, 0)) (K2 : hpK h L2 = some (1, 0)) (hm : mn ≤ 6) :
    ∀ j k, j + k = mn → ∀ fuel, j < fuel → ∀ v, f_X8_unlike_123 fuel (some c) (some r) (some q) v (nI mn) (nI k) h = some ((v + dR (fun i => uN (RV h (r + 1) i) (RV h (q + 1) i)) j k) + ab_max (nI n1) (nI n2) - nI mn, h) := by
  intro j
  induction j with
  | zero =>
    intro k e fuel hf v
    cases fuel with
    | zero => omega
    | succ fuel =>
      unfold f_X8_unlike_123
      rw [if_pos (by rw [ni_le (by omega) (by omega)]; omega), rb_g0 B, Option.bind_some, l1, getI_ok K1, Option.bind_some, rb_g0 B2, Option.bind_some, l2, getI_ok K2, Option.bind_some, e1, e2]
      unfold dR
      rw [Int32.add_zero]
  | succ j ih =>
    intro k e fuel hf v
    cases fuel with
    | zero => omega
    | succ fuel =>
      unfold f_X8_unlike_123 f_X8_unlike_164
      rw [if_neg (by rw [ni_le (by omega) (by omega)]; omega), xo_g1 X, Option.bind_some, rb_g2 B, Option.bind_some, xo_tk X, Option.bind_some, c_told X te (rb_rw B) N1 (show k < 6 by omega) (by omega), bnd_some, xo_g1 X, Option.bind_some, rb_g2 B2, Option.bind_some, xo_tk X, Option.bind_some, c_told X te (rb_rw B2) N2 (show k < 6 by omega) (by omega), bnd_some]
      have nx : nI k + 1 = nI (k + 1) := by rw [li1, ni_add]
      unfold dR
      by_cases z : lg_cmp (tell (RV h (r + 1) k)) (tell (RV h (q + 1) k)) = 0
      · rw [if_pos z, nx, ih (k + 1) (by omega) fuel (by omega)]
        simp only [uN, if_pos z, Int32.zero_add]
      · rw [if_neg z, nx, ih (k + 1) (by omega) fuel (by omega)]
        simp only [uN, if_neg z, Int32.add_assoc]
theorem r_un {h : Hp} {m s t n1 n2 mn : Nat} (H : RO h m) (hs : s < 9) (ht : t < 9) (hm : mn ≤ 6) (h1 : n1 ≤ 6) (h2 : n2 ≤ 6) (em : (mn = n1 ∧ n1 ≤ n2) ∨ (mn = n2 ∧ n2 ≤ n1)) :
    ∀ j k, j + k = mn → ∀ fuel, j < fuel → ∀ v, f_X9_unlike_142 fuel (some m) (nI s) (nI t) (nI n1) (nI n2) v (nI k) h = some (v + dR (fun i => uN (hpD h (m + 29) (6 * s + i)) (hpD h (m + 29) (6 * t + i))) j k, h) := by
  intro j
  induction j with
  | zero =>
    intro k e fuel hf v
    cases fuel with
    | zero => omega
    | succ fuel =>
      unfold f_X9_unlike_142 f_X9_unlike_199 dR
      rw [Int32.add_zero]
      by_cases z : n1 ≤ k
      · rw [if_pos (by rw [ni_le (by omega) (by omega)]; omega)]
      · rw [if_neg (by rw [ni_le (by omega) (by omega)]; omega), if_pos (by rw [ni_le (by omega) (by omega)]; omega)]
  | succ j ih =>
    intro k e fuel hf v
    cases fuel with
    | zero => omega
    | succ fuel =>
      unfold f_X9_unlike_142 f_X9_unlike_193
      have i1 : (6 : Int32) * nI s + nI k = nI (6 * s + k) := by rw [li6, ni_mul, ni_add]
      have i2 : (6 : Int32) * nI t + nI k = nI (6 * t + k) := by rw [li6, ni_mul, ni_add]
      rw [if_neg (by rw [ni_le (by omega) (by omega)]; omega), if_neg (by rw [ni_le (by omega) (by omega)]; omega), ro_g30 H, Option.bind_some, i1, i2, ro_a30 H (by omega), Option.bind_some, r_bits, bnd_some, ro_g30 H, Option.bind_some, ro_a30 H (by omega), Option.bind_some, r_bits, bnd_some]
      have nx : nI k + 1 = nI (k + 1) := by rw [li1, ni_add]
      unfold dR
      by_cases z : lg_cmp (tell (hpD h (m + 29) (6 * s + k))) (tell (hpD h (m + 29) (6 * t + k))) = 0
      · rw [if_pos z, nx, ih (k + 1) (by omega) fuel (by omega)]
        simp only [uN, if_pos z, Int32.zero_add]
      · rw [if_neg z, nx, ih (k + 1) (by omega) fuel (by omega)]
        simp only [uN, if_neg z, Int32.add_assoc]
theorem dR_c {f g : Nat → Int32} {n : Nat} (e : ∀ i, i < n → f i = g i) : ∀ j k, j + k ≤ n → dR f j k = dR g j k := by
  intro j
  induction j with
  | zero => intro k _; rfl
  | succ j ih => intro k hk; unfold dR; rw [e k (by omega), ih (k + 1) (by omega)]
theorem op_unlike {b : Nat} {h : Hp} {c : Nat} (I0 : INV b h c) (p0 p1 : Int32) : ∃ a h1 h2, f_X8_unlike c p0 p1 h = some (a, h1) ∧ f_X9_unlike (c + 66) p0 p1 h1 = some (a, h2) ∧ INV (b + 1) h2 c := by
  apply op_ro I0
  obtain ⟨nl, ns, nr, Lw, nv, nn, Ob, ex, rl, Rc, τ, I⟩ := I0
  have X := I.1.1
  have te := I.1.2.1
  have H := I.1.2.2.2.2.2.2.2
  have nr4 := I.2.1.2.2.1
  unfold f_X8_unlike f_X9_unlike f_X8_unlike_19 f_X9_unlike_17
  rcases in_cases p0 (N := nr) (by omega) with ⟨s, hs, rfl⟩ | hv
  · obtain ⟨s4, he, hl, si, W⟩ := sl I hs
    have B := W.2.1
    obtain ⟨hn, hn1, hN, l8, e1, e3, en, eN, -⟩ := wr_nv W
    obtain ⟨-, al, R, C, va, r0⟩ := si
    have rl' := rr_l R al
    simp only [xo_ck X, Option.bind_some, c_runAt_ok I hs, bnd_some, ro_ck H, r_isRun_ok I hs]
    rw [if_neg (show ¬ some (Ob s) = none by simp), if_neg (show ¬ (1 : Int32) = 0 by decide)]
    rcases in_cases p1 (N := 4) (by omega) with ⟨p, hp, rfl⟩ | hv
    · rw [if_neg (by rw [li0, ni_lt (by omega) (by omega)]; omega), if_pos (by rw [li4, ni_lt (by omega) (by omega)]; omega), r_in, bnd_some, if_pos (show 0 ≤ nI p ∧ nI p ≤ 3 by rw [li0, li3, ni_le (by omega) (by omega), ni_le (by omega) (by omega)]; omega), if_pos (show ¬ (1 : Int32) = 0 by decide)]
      have g8 : getR h (some c) 8 8 = some (some (c + 7)) := by rw [getR_ok X.1, X.2.2.2.2.2.2.1]
      have k7 : hpK h (c + 7) = some (15, 5) := X.2.2.2.2.2.2.2.2.2.2.2.2.1
      have kp := I.2.2.2.2.2.2.2.2.1 p (by omega)
      have mp := I.2.2.2.2.2.2.2.2.2.1 p hp
      simp only [g8, Option.bind_some, aldR_ok k7 (ni_in (show p < 5 by omega) (by omega)), ni_cl (show p < 2147483648 by omega), kp, ro_g24 H, ro_a24 H hp, mp]
      cases ee : ex (4 + p) with
      | false =>
        simp only [Bool.false_eq_true, if_false]
        rw [if_neg (by simp), if_neg (by simp)]
        exact ⟨_, rfl, rfl⟩
      | true =>
        obtain ⟨hl2, si2, W2⟩ := sk I (show 4 + p < 8 by omega) ee
        have B2 := W2.2.1
        obtain ⟨jn, jn1, jN, jl8, je1, je3, jen, jeN, -⟩ := wr_nv W2
        obtain ⟨-, al2, R2, C2, va2, r02⟩ := si2
        have rl2' := rr_l R2 al2
        simp only [if_true]
        rw [if_pos (by simp), if_pos (by decide)]
        have i4 : (4 : Int32) + nI p = nI (4 + p) := by rw [li4, ni_add]
        simp only [xo_g1 X, Option.bind_some, rb_gd B, rb_gd B2, xo_tk X, (cr_h C).1, (cr_h C2).1, c_bits X te va.2.2.2.2.2.2.1.1, c_bits X te va2.2.2.2.2.2.2.1.1, bnd_some, ro_g0 H, ro_g15 H, ro_a15 H (show s < 9 by omega), rl', ro_a0 H l8, e1, i4, ro_a15 H (show 4 + p < 9 by omega), rl2', ro_a0 H jl8, je1, ro_g25 H, ro_a25 H (show s < 9 by omega), ro_a25 H (show 4 + p < 9 by omega), r_bits, R.2.2.1 24 (by omega) (by omega), R2.2.2.1 24 (by omega) (by omega)]
        unfold f_X8_unlike_70 f_X9_unlike_88
        simp only [xo_g1 X, Option.bind_some, rb_gd B, rb_gd B2, xo_tk X, (cr_h C).2.2.1, (cr_h C2).2.2.1, c_bits X te va.2.2.2.2.2.2.2.1.fn.nm, c_bits X te va2.2.2.2.2.2.2.2.1.fn.nm, bnd_some, ro_g26 H, ro_a26 H (show s < 9 by omega), ro_a26 H (show 4 + p < 9 by omega), r_bits, R.2.2.1 25 (by omega) (by omega), R2.2.2.1 25 (by omega) (by omega)]
        generalize u1 : lg_cmp (tell ((Rc s).2 24 0)) (tell ((Rc (4 + p)).2 24 0)) = w1
        generalize u2 : lg_cmp (tell ((Rc s).2 25 0)) (tell ((Rc (4 + p)).2 25 0)) = w2
        unfold f_X8_unlike_100 f_X9_unlike_115 f_X9_unlike_136
        simp only [rb_g0 B, rb_g0 B2, r0, r02, Option.bind_some, getI_ok W.1.2.1.1, getI_ok W2.1.2.1.1, en, jen]
        obtain ⟨mn, mm, hmn, em, e_min, e_max⟩ : ∃ mn mm, mn ≤ 6 ∧ ((mn = nv (rl s) ∧ nv (rl s) ≤ nv (rl (4 + p)) ∧ mm = nv (rl (4 + p))) ∨ (mn = nv (rl (4 + p)) ∧ nv (rl (4 + p)) ≤ nv (rl s) ∧ mm = nv (rl s))) ∧ ab_min (nI (nv (rl s))) (nI (nv (rl (4 + p)))) = nI mn ∧ ab_max (nI (nv (rl s))) (nI (nv (rl (4 + p)))) = nI mm := by
          unfold ab_min ab_max
          simp only [ni_lt (show nv (rl s) < 2147483648 by omega) (show nv (rl (4 + p)) < 2147483648 by omega), ni_lt (show nv (rl (4 + p)) < 2147483648 by omega) (show nv (rl s) < 2147483648 by omega)]
          by_cases z : nv (rl s) < nv (rl (4 + p))
          · rw [if_neg (by omega), if_pos z]
            exact ⟨_, _, by omega, Or.inl ⟨rfl, by omega, rfl⟩, rfl, rfl⟩
          · by_cases z2 : nv (rl (4 + p)) < nv (rl s)
            · rw [if_pos z2, if_neg z]
              exact ⟨_, _, by omega, Or.inr ⟨rfl, by omega, rfl⟩, rfl, rfl⟩
            · rw [if_neg z2, if_neg z]
              exact ⟨_, _, by omega, Or.inl ⟨rfl, by omega, by omega⟩, rfl, rfl⟩
        have cu := fun v => c_un X te B B2 W.2.2.1 W2.2.2.1 r0 r02 en jen W.1.2.1.1 W2.1.2.1.1 hmn mn 0 (by omega) fuelN (by unfold fuelN; omega) v
        have ru := fun v => r_un (s := s) (t := 4 + p) (n1 := nv (rl s)) (n2 := nv (rl (4 + p))) H (by omega) (by omega) hmn hn jn (by omega) mn 0 (by omega) fuelN (by unfold fuelN; omega) v
        have dd : dR (fun i => uN (RV h (Ob s + 1) i) (RV h (Ob (4 + p) + 1) i)) mn 0 = dR (fun i => uN (hpD h (c + 66 + 29) (6 * s + i)) (hpD h (c + 66 + 29) (6 * (4 + p) + i))) mn 0 :=
          dR_c (n := mn) (fun i hi => by
            show uN _ _ = uN _ _
            rw [cr_x C i (by omega), cr_x C2 i (by omega), R.2.2.2.2.2.1 i (by omega), R2.2.2.2.2.2.1 i (by omega)]) mn 0 (by omega)
        rw [dd] at cu
        rw [e_min, li0]
        simp only [cu, ru, e_max]
        generalize dR (fun i => uN (hpD h (c + 66 + 29) (6 * s + i)) (hpD h (c + 66 + 29) (6 * (4 + p) + i))) mn 0 = dd0
        have df : (if nI (nv (rl (4 + p))) ≤ nI (nv (rl s)) then nI (nv (rl s)) - nI (nv (rl (4 + p))) else nI (nv (rl (4 + p))) - nI (nv (rl s))) = nI (mm - mn) := by
          simp only [ni_le (show nv (rl (4 + p)) < 2147483648 by omega) (show nv (rl s) < 2147483648 by omega)]
          split
          · rw [ni_sub (by omega)]; congr 1; omega
          · rw [ni_sub (by omega)]; congr 1; omega
        have fin : ∀ x : Int32, x + dd0 + nI mm - nI mn = x + nI (mm - mn) + dd0 := by
          intro x
          rw [Int32.add_assoc x, Int32.add_comm dd0, ← Int32.add_assoc, Int32.sub_eq_add_neg, Int32.add_assoc, Int32.add_comm dd0, ← Int32.add_assoc, Int32.add_assoc x, ← Int32.sub_eq_add_neg, ni_sub (by omega)]
        have gl : ∀ x : Int32, (if nI (nv (rl (4 + p))) ≤ nI (nv (rl s)) then some (x + (nI (nv (rl s)) - nI (nv (rl (4 + p)))) + dd0, h) else some (x + (nI (nv (rl (4 + p))) - nI (nv (rl s))) + dd0, h)) = some (x + nI (mm - mn) + dd0, h) := by
          intro x
          rw [← df]
          split <;> rfl
        simp only [← li0, gl, fin]
        by_cases z1 : w1 = 0
        · rw [if_pos z1, if_pos z1]
          by_cases z2 : w2 = 0
          · rw [if_pos z2, if_pos z2]; exact ⟨_, rfl, rfl⟩
          · rw [if_neg z2, if_neg z2]; exact ⟨_, rfl, rfl⟩
        · rw [if_neg z1, if_neg z1]
          by_cases z2 : w2 = 0
          · rw [if_pos z2, if_pos z2]; exact ⟨_, rfl, rfl⟩
          · rw [if_neg z2, if_neg z2]; exact ⟨_, rfl, rfl⟩
    · have hn : ¬ (0 ≤ p1 ∧ p1 ≤ 3) := by
        rintro ⟨w1, w2⟩
        rcases hv with v | v
        · exact absurd v (Int32.not_lt.mpr w1)
        · rw [Int32.le_iff_toInt_le] at v w2
          rw [ni_toInt (by omega)] at v
          have : (3 : Int32).toInt = 3 := by decide
          omega
      rw [r_in, bnd_some, if_neg hn, if_neg (show ¬ ¬ (0 : Int32) = 0 by decide)]
      refine ⟨-1, ?_, rfl⟩
      rcases hv with v | v
      · rw [if_pos v]
      · by_cases q : p1 < 0
        · rw [if_pos q]
        · rw [if_neg q, if_neg (show ¬ p1 < 4 from Int32.not_lt.mpr v)]
  · simp only [xo_ck X, Option.bind_some, c_runAt_no I hv, bnd_some, ro_ck H, r_isRun_no I hv]
    rw [if_pos trivial, if_pos trivial]
    exact ⟨_, rfl, rfl⟩
