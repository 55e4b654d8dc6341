/-! ===== the class's signals ===== -/
/-- the double of a difference, twice -/
theorem sub_half {a t0 t1 : UInt64} (ha : Fn a) (h0 : Fn t0) (h1 : Fn t1) (l1 : ky t0 ≤ ky a) (l2 : ky a ≤ ky t1) (l3 : ky t0 < ky t1) (hb : (ky (FP.dsub t1 t0)).natAbs < 1500 * 2 ^ 52) : zv (FP.dsub a t0) ≤ 2 * zv (FP.dsub t1 t0) := by
  have z01 := (z_lt h0.nm h1.nm).mp l3
  have za1 := (z_le ha.nm h1.nm).mp l2
  have fD : Fn (FP.dsub t1 t0) := kb_fn hb (by omega)
  have d1 := sub_z_ge h1 h0 nm_m1 (by rw [z_m1]; omega)
  have d2 := (z_le nm_m1 fD.nm).mp d1
  rw [z_m1] at d2
  obtain ⟨s, c, q, hv⟩ := fn_fin fD
  have fit := FP.Core.val64_fits (FP.dsub t1 t0)
  rw [hv] at fit
  have qm : FP.Core.b64.qmin = -1074 := by decide
  have qM : FP.Core.b64.qmax = 971 := by decide
  have tl : FP.Core.b64.tails = 2 ^ 52 := by decide
  have pp : FP.Core.b64.p = 53 := by decide
  have zD : zv (FP.dsub t1 t0) = FP.Core.signed s (c * 2 ^ (q - FP.Core.b64.qmin).toNat) := by show FP.Core.zval _ _ = _; rw [hv]; rfl
  -- the double of D, as a datum
  have W : ∃ w : FP.Core.Datum, FP.Core.fits FP.Core.b64 w ∧ w ≠ .nan ∧ FP.Core.zval FP.Core.b64 w = 2 * zv (FP.dsub t1 t0) := by
    by_cases hc : c < FP.Core.b64.tails
    · have hq : q = FP.Core.b64.qmin := by rcases fit.2.2.2 with z | z; exact z; omega
      refine ⟨.fin s (2 * c) q, ⟨by rw [pp]; rw [tl] at hc; omega, fit.2.1, fit.2.2.1, Or.inl hq⟩, by simp, ?_⟩
      show FP.Core.signed s (2 * c * 2 ^ (q - FP.Core.b64.qmin).toNat) = _
      rw [zD, Nat.mul_assoc]
      unfold FP.Core.signed
      generalize c * 2 ^ (q - FP.Core.b64.qmin).toNat = y
      cases s <;> simp <;> omega
    · have hq : q + 1 ≤ FP.Core.b64.qmax := by
        rw [ky_mod] at hb
        obtain ⟨s', c', q', e1, e2⟩ := FP.Core.mag_bits hb (by omega)
        have e1' : FP.Core.val64 (FP.dsub t1 t0) = .fin s' c' q' := e1
        rw [hv] at e1'
        cases e1'
        rw [tl] at hc
        rcases Nat.lt_or_ge ((q - FP.Core.b64.qmin).toNat) 1499 with z | z
        · omega
        · exfalso
          have h3 : 2 ^ 52 * 2 ^ 1499 ≤ c * 2 ^ (q - FP.Core.b64.qmin).toNat := Nat.mul_le_mul (by omega) (Nat.pow_le_pow_right (by decide) z)
          have h4 : 2 ^ (1500 - 1) = 2 ^ 1499 := rfl
          rw [h4] at e2
          exact absurd e2 (Nat.not_lt.mpr h3)
      refine ⟨.fin s c (q + 1), ⟨fit.1, by have := fit.2.1; omega, hq, Or.inr (by omega)⟩, by simp, ?_⟩
      show FP.Core.signed s (c * 2 ^ (q + 1 - FP.Core.b64.qmin).toNat) = _
      have := fit.2.1
      have e : (q + 1 - FP.Core.b64.qmin).toNat = (q - FP.Core.b64.qmin).toNat + 1 := by omega
      rw [zD, e, Nat.pow_succ, ← Nat.mul_assoc]
      unfold FP.Core.signed
      generalize c * 2 ^ (q - FP.Core.b64.qmin).toNat = y
      cases s <;> simp <;> omega
  obtain ⟨w, w1, w2, w3⟩ := W
  have val : ∀ u, FP.Core.zval FP.Core.b64 (FP.Core.val64 (FP.dsub u t0)) = FP.Core.zval FP.Core.b64 (FP.Core.round FP.Core.b64 (FP.Core.exactSum (FP.Core.val64 u) (FP.Core.val64 (FP.dneg t0)))) := fun u => by
    rw [dsub_is]
    show FP.Core.zval _ (FP.Core.val64 (FP.Core.dadd u (FP.dneg t0))) = _
    rw [FP.Core.val64_dadd]
  have fn0 : Fn (FP.dneg t0) := fn_dneg.mpr h0
  have zn0 : zv (FP.dneg t0) = - zv t0 := z_sub
  have Y : zv t1 - zv t0 < 2 * zv (FP.dsub t1 t0) := by
    by_cases z : zv t1 - zv t0 < 2 * zv (FP.dsub t1 t0)
    · exact z
    · exfalso
      have := FP.Core.sum_ge FP.Core.good_b64 (fn_fin h1) (fn_fin fn0) (FP.Core.val64_fits t1) (FP.Core.val64_fits _) w1 w2 (by
        have e1 : FP.Core.zval FP.Core.b64 (FP.Core.val64 (FP.dneg t0)) = - zv t0 := zn0
        have e2 : FP.Core.zval FP.Core.b64 (FP.Core.val64 t1) = zv t1 := rfl
        rw [w3, e1, e2]; omega)
      rw [← val t1, w3] at this
      have e3 : FP.Core.zval FP.Core.b64 (FP.Core.val64 (FP.dsub t1 t0)) = zv (FP.dsub t1 t0) := rfl
      rw [e3] at this
      omega
  have := FP.Core.sum_le FP.Core.good_b64 (fn_fin ha) (fn_fin fn0) (FP.Core.val64_fits a) (FP.Core.val64_fits _) w1 w2 (by
    have e1 : FP.Core.zval FP.Core.b64 (FP.Core.val64 (FP.dneg t0)) = - zv t0 := zn0
    have e2 : FP.Core.zval FP.Core.b64 (FP.Core.val64 a) = zv a := rfl
    rw [w3, e1, e2]; omega)
  rw [← val a, w3] at this
  exact this
/-- a signal's object -/
def SO (h : Hp) (S : Nat) : Prop := hpK h S = some (5, 0) ∧ hpR h S 1 = some (S + 1) ∧ hpR h S 2 = some (S + 2) ∧ hpK h (S + 1) = some (10, 16) ∧ hpK h (S + 2) = some (10, 16)
/-- times rise, and all is small enough -/
def StOK (p : Nat) (tm vl : Nat → UInt64) : Prop := (∀ j, j < p → (ky (tm j)).natAbs < 1089 * 2 ^ 52 ∧ (ky (vl j)).natAbs < 1089 * 2 ^ 52) ∧ ∀ j, j + 1 < p → ky (tm j) < ky (tm (j + 1))
theorem st_mono {p : Nat} {tm vl : Nat → UInt64} (H : StOK p tm vl) : ∀ (d i : Nat), i + d < p → ky (tm i) ≤ ky (tm (i + d)) := by
  intro d
  induction d with
  | zero => intro i _; exact Int.le_refl _
  | succ d ih =>
    intro i hi
    have h1 := ih i (by omega)
    have h2 := H.2 (i + d) (by omega)
    rw [show i + (d + 1) = i + d + 1 by omega]
    omega
theorem sgP_spec {tm : Nat → UInt64} {a : UInt64} : ∀ (d j : Nat), j ≤ sgP tm a d j ∧ sgP tm a d j ≤ j + d ∧ (sgP tm a d j < j + d → ky a < ky (tm (sgP tm a d j + 1))) ∧ (j < sgP tm a d j → ky (tm (sgP tm a d j)) ≤ ky a) := by
  intro d
  induction d with
  | zero => intro j; exact ⟨Nat.le_refl _, Nat.le_refl _, fun h => absurd h (by show ¬ j < j + 0; omega), fun h => absurd h (by show ¬ j < j; omega)⟩
  | succ d ih =>
    intro j
    rw [sgP]
    by_cases q : ky (tm (j + 1)) ≤ ky a
    · rw [if_pos q]
      obtain ⟨a1, a2, a3, a4⟩ := ih (j + 1)
      refine ⟨by omega, by omega, fun h => a3 (by omega), fun h => ?_⟩
      by_cases e : sgP tm a d (j + 1) = j + 1
      · rw [e]; exact q
      · exact a4 (by omega)
    · rw [if_neg q]
      exact ⟨Nat.le_refl _, by omega, fun _ => by omega, fun h => by omega⟩
theorem c_heightAt {h : Hp} {S p : Nat} {how : Int32} {tm vl : Nat → UInt64} {a : UInt64} (O : SO h S) (hp : p ≤ 16) (hc : hpI h S 3 = nI p) (hh : hpI h S 0 = how) (ht : ∀ j, j < p → hpD h (S + 1) j = tm j) (hv : ∀ j, j < p → hpD h (S + 2) j = vl j) (H : StOK p tm vl) (ha : Nm a) :
    ∃ v, f_X5_heightAt S a h = some (v, h) ∧ Nm v ∧ sgV p how tm vl a = v := by
  have g1 : getR h (some S) 5 1 = some (some (S + 1)) := by rw [getR_ok O.1, O.2.1]
  have g2 : getR h (some S) 5 2 = some (some (S + 2)) := by rw [getR_ok O.1, O.2.2.1]
  have gi : getI h (some S) 5 3 = some (nI p) := by rw [getI_ok O.1, hc]
  have gh : getI h (some S) 5 0 = some how := by rw [getI_ok O.1, hh]
  have a1 : ∀ j, j < p → aldD h (some (S + 1)) (nI j) = some (tm j) := fun j hj => by rw [aldD_ok O.2.2.2.1 (ni_in (show j < 16 by omega) (by omega)), ni_cl (by omega), ht j hj]
  have a2 : ∀ j, j < p → aldD h (some (S + 2)) (nI j) = some (vl j) := fun j hj => by rw [aldD_ok O.2.2.2.2 (ni_in (show j < 16 by omega) (by omega)), ni_cl (by omega), hv j hj]
  have ft : ∀ j, j < p → Fn (tm j) := fun j hj => kb_fn (H.1 j hj).1 (by omega)
  have fv : ∀ j, j < p → Fn (vl j) := fun j hj => kb_fn (H.1 j hj).2 (by omega)
  unfold f_X5_heightAt sgV
  rw [gi, Option.bind_some]
  by_cases p0 : p = 0
  · subst p0
    rw [if_neg (by decide), if_pos rfl]
    exact ⟨_, rfl, nm_0, rfl⟩
  · rw [if_pos (by rw [li0, ni_eq (by omega) (by omega)]; exact p0), if_neg p0, if_pos (show (ky a).natAbs ≤ 9218868437227405312 from ha)]
    -- the loop
    have loop : ∀ (d j fuel : Nat), j + d = p - 1 → d < fuel → f_X5_heightAt_14 fuel (some S) a (nI j) (nI (j + 1)) h = f_X5_heightAt_44 (some S) a (nI (sgP tm a d j)) h := by
      intro d
      induction d with
      | zero =>
        intro j fuel hj hf
        obtain ⟨fuel, rfl⟩ : ∃ j, fuel = j + 1 := ⟨fuel - 1, by omega⟩
        rw [f_X5_heightAt_14, gi, Option.bind_some, if_pos ((ni_le (by omega) (by omega)).mpr (by omega))]
        rfl
      | succ d ih =>
        intro j fuel hj hf
        obtain ⟨fuel, rfl⟩ : ∃ j, fuel = j + 1 := ⟨fuel - 1, by omega⟩
        rw [f_X5_heightAt_14, gi, Option.bind_some, if_neg (by rw [ni_le (by omega) (by omega)]; omega), g1, Option.bind_some, a1 (j + 1) (by omega), Option.bind_some]
        by_cases q : 0 < cg (tm (j + 1)) a
        · have : ¬ ky (tm (j + 1)) ≤ ky a := by
            rw [cg_gt] at q
            rcases q with q | q
            · exact absurd ⟨(ft (j + 1) (by omega)).nm, ha⟩ q
            · omega
          rw [if_pos q, sgP, if_neg this]
        · have : ky (tm (j + 1)) ≤ ky a := by
            rw [cg_gt] at q
            exact Int.not_lt.mp (fun z => q (Or.inr z))
          rw [if_neg q, sgP, if_pos this, li1, ni_add]
          exact ih (j + 1) fuel (by omega) (by omega)
    rw [show (0 : Int32) = nI 0 from rfl, show (1 : Int32) = nI (0 + 1) from rfl, loop (p - 1) 0 fuelN (by omega) (by unfold fuelN; omega)]
    obtain ⟨b1, b2, b3, b4⟩ := sgP_spec (tm := tm) (a := a) (p - 1) 0
    generalize hJ : sgP tm a (p - 1) 0 = J at b1 b2 b3 b4 ⊢
    have out : f_X5_heightAt_72 (some S) (nI J) h = some (vl J, h) := by
      unfold f_X5_heightAt_72
      rw [g2, Option.bind_some, a2 J (by omega), Option.bind_some]
    unfold f_X5_heightAt_44
    rw [gh, Option.bind_some]
    by_cases c1 : ky a ≤ ky (tm 0)
    · have J0 : J = 0 := by
        by_cases z : J = 0
        · exact z
        · exfalso
          have e1 := b4 (by omega)
          have e2 := st_mono H J 0 (by omega)
          have e3 := H.2 0 (by omega)
          have e4 := st_mono H (J - 1) 1 (by omega)
          rw [show 1 + (J - 1) = J by omega] at e4
          rw [show 0 + 1 = 1 from rfl] at e3
          omega
      subst J0
      rw [if_pos c1, out, g1, Option.bind_some, a1 0 (by omega), Option.bind_some, if_pos (cg_le.mpr ⟨⟨ha, (ft 0 (by omega)).nm⟩, c1⟩)]
      have nv := (fv 0 (by omega)).nm
      split
      · exact ⟨_, rfl, nv, rfl⟩
      · exact ⟨_, rfl, nv, rfl⟩
    · rw [if_neg c1]
      by_cases c2 : ky (tm (p - 1)) ≤ ky a
      · have JE : J = p - 1 := by
          by_cases z : J = p - 1
          · exact z
          · exfalso
            have e1 := b3 (by omega)
            have e2 := st_mono H (p - 1 - (J + 1)) (J + 1) (by omega)
            rw [show J + 1 + (p - 1 - (J + 1)) = p - 1 by omega] at e2
            omega
        rw [if_pos c2, ← JE]
        split
        · exact ⟨_, out, (fv J (by omega)).nm, rfl⟩
        · rw [g1, Option.bind_some, a1 J (by omega), Option.bind_some]
          split
          · exact ⟨_, out, (fv J (by omega)).nm, rfl⟩
          · rw [gi, Option.bind_some, li1, ni_add, if_neg (by rw [ni_lt (by omega) (by omega)]; omega)]
            exact ⟨_, out, (fv J (by omega)).nm, rfl⟩
      · rw [if_neg c2]
        have JL : J < p - 1 := by
          by_cases z : J < p - 1
          · exact z
          · exfalso
            have e : J = p - 1 := by omega
            by_cases z2 : J = 0
            · have : p - 1 = 0 := by omega
              rw [this] at c2; omega
            · have := b4 (by omega)
              rw [e] at this; exact c2 this
        have tJ : ky (tm J) ≤ ky a := by
          by_cases z2 : J = 0
          · rw [z2]; omega
          · exact b4 (by omega)
        have tJ1 := b3 (by omega)
        unfold sgL
        by_cases w0 : how = 0
        · rw [if_pos w0, if_pos w0]; exact ⟨_, out, (fv J (by omega)).nm, rfl⟩
        · rw [if_neg w0, if_neg w0, g1, Option.bind_some, a1 J (by omega), Option.bind_some]
          by_cases w1 : ky (tm J) = ky a
          · rw [if_pos (cg_le.mpr ⟨⟨ha, (ft J (by omega)).nm⟩, by omega⟩), if_pos w1]; exact ⟨_, out, (fv J (by omega)).nm, rfl⟩
          · rw [if_neg (fun z => by have := (cg_le.mp z).2; omega), if_neg w1, gi, Option.bind_some, li1, ni_add, if_pos ((ni_lt (by omega) (by omega)).mpr (by omega)), Option.bind_some]
            have k0 := (H.1 J (by omega)).1
            have k1 := (H.1 (J + 1) (by omega)).1
            have ka : (ky a).natAbs < 1089 * 2 ^ 52 := by omega
            have fa : Fn a := kb_fn ka (by omega)
            have kN := dsub_kb ka k0 (by omega)
            have kD := dsub_kb k1 k0 (by omega)
            have fN := kb_fn kN (by omega)
            have fD := kb_fn kD (by omega)
            have pD : 0 < ky (FP.dsub (tm (J + 1)) (tm J)) := by
              have e1 := (sub_sg (ft (J + 1) (by omega)) (ft J (by omega)))
              omega
            have pN : 0 ≤ ky (FP.dsub a (tm J)) := by
              have e1 := (sub_sg fa (ft J (by omega)))
              omega
            have hz := sub_half fa (ft J (by omega)) (ft (J + 1) (by omega)) tJ (by omega) (by omega) (by omega)
            have f2 : Fn 4611686018427387904 := by show (ky _).natAbs < _; rw [ky_c2]; decide
            obtain ⟨fp, kp⟩ := div_z_le (V := 4611686018427387904) (k := 2) fN fD pN pD f2 z_2 hz
            have k2 : (ky (4611686018427387904 : UInt64)).natAbs = 1024 * 2 ^ 52 := by rw [ky_c2]; decide
            have kp' : (ky (FP.ddiv (FP.dsub a (tm J)) (FP.dsub (tm (J + 1)) (tm J)))).natAbs < 1025 * 2 ^ 52 := by omega
            have kV := dsub_kb (H.1 (J + 1) (by omega)).2 (H.1 J (by omega)).2 (by omega)
            have kM := dmul_kb kV kp' (by omega) (by omega)
            have kS := dadd_kb (a := vl J) (K := 1094) (by have := (H.1 J (by omega)).2; omega) kM (by omega)
            have fV := kb_fn kV (by omega)
            have fM := kb_fn kM (by omega)
            have fS := kb_fn kS (by omega)
            rw [a1 J (by omega), Option.bind_some, fop_ok fN.nm, Option.bind_some, Option.bind_some, a1 (J + 1) (by omega), Option.bind_some, Option.bind_some, a1 J (by omega), Option.bind_some, fop_ok fD.nm, Option.bind_some, fop_ok fp.nm, Option.bind_some, g2, Option.bind_some, a2 J (by omega), Option.bind_some, Option.bind_some, a2 (J + 1) (by omega), Option.bind_some, Option.bind_some, a2 J (by omega), Option.bind_some, fop_ok fV.nm, Option.bind_some, fop_ok fM.nm, Option.bind_some, fop_ok fS.nm, Option.bind_some, cn_nm fV.nm, cn_nm fN.nm, cn_nm fD.nm, cn_nm fp.nm, cn_nm fM.nm, cn_nm fS.nm]
            exact ⟨_, rfl, fS.nm, rfl⟩
