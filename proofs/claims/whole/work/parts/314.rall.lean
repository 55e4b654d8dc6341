/-! ===== all nodes of a law ===== -/
/-- the first q nodes are worked out, over what lay in the row -/
def nvS (w : Nat → (Nat → UInt64) → UInt64) : Nat → (Nat → UInt64) → Nat → UInt64
  | 0, f => f
  | q + 1, f => up1 (nvS w q f) q (w q (nvS w q f))
theorem nvS_ge {w : Nat → (Nat → UInt64) → UInt64} {q j : Nat} {f : Nat → UInt64} (h : q ≤ j) : nvS w q f j = f j := by
  induction q with
  | zero => rfl
  | succ q ih => rw [nvS, up1_ne (by omega), ih (by omega)]
theorem nvS_lt {w : Nat → (Nat → UInt64) → UInt64} {q j : Nat} {f : Nat → UInt64} (h : j < q) : nvS w q f j = nvS w (j + 1) f j := by
  induction q with
  | zero => omega
  | succ q ih =>
    by_cases e : j = q
    · subst e; rfl
    · rw [nvS, up1_ne e, ih (by omega)]
theorem nvS_cv {w : Nat → (Nat → UInt64) → UInt64} {N : Nat} {f : Nat → UInt64} (hw : ∀ q g, q < N → (∀ j, j < q → Cv (g j)) → Cv (w q g)) : ∀ q, q ≤ N → ∀ j, j < q → Cv (nvS w q f j) := by
  intro q
  induction q with
  | zero => intro _ j hj; omega
  | succ q ih =>
    intro hq j hj
    rw [nvS]
    by_cases e : j = q
    · subst e; rw [up1_self]; exact hw j _ (by omega) (ih (by omega))
    · rw [up1_ne e]; exact ih (by omega) j (by omega)
/-- what lay in the row before counts nothing -/
theorem nvS_any {w w' : Nat → (Nat → UInt64) → UInt64} {N : Nat} {f g : Nat → UInt64} (hw : ∀ q a b, q < N → (∀ j, j < q → a j = b j) → w q a = w' q b) : ∀ q, q ≤ N → ∀ j, j < q → nvS w q f j = nvS w' q g j := by
  intro q
  induction q with
  | zero => intro _ j hj; omega
  | succ q ih =>
    intro hq j hj
    rw [nvS, nvS]
    by_cases e : j = q
    · subst e; rw [up1_self, up1_self]; exact hw j _ _ (by omega) (ih (by omega))
    · rw [up1_ne e, up1_ne e]; exact ih (by omega) j (by omega)
/-- a law of the reference is in order: N nodes -/
def LwOK (h : Hp) (m l n ns N : Nat) : Prop := l < 8 ∧ N ≤ 48 ∧ 1 ≤ n ∧ n ≤ 6 ∧ hpI h (m + 1) l = nI n ∧ hpI h (m + 3) l = nI N ∧ ∀ q, q < N → NdOK n ns q (hpI h (m + 5) (48 * l + q)) (hpI h (m + 6) (48 * l + q)) (hpI h (m + 7) (48 * l + q)) (hpI h (m + 8) (48 * l + q)) ∧ Cv (hpD h (m + 9) (48 * l + q))
theorem cv_wV {k a b c n ns q : Nat} {cst t : UInt64} {x f : Nat → UInt64} {sg : Nat → UInt64 → UInt64} (hc : Cv cst) (ht : Cv t) (hx : ∀ j, j < n → Cv (x j)) (hf : ∀ j, j < q → Cv (f j)) (hsg : ∀ s v, s < ns → Cv v → Cv (sg s v)) (h0 : k = 0 → a < n) (h1 : 2 ≤ k ∧ k ≤ 12 → a < q) (h2 : (2 ≤ k ∧ k ≤ 5) ∨ (8 ≤ k ∧ k ≤ 10) → b < q) (h3 : k = 10 → c < q) (h5 : k = 12 → b < ns) : Cv (wV k a b c cst t x f sg) := by
  unfold wV
  split
  · exact hx _ (h0 rfl)
  · exact ht
  · exact cv_cn _
  · exact cv_cn _
  · exact cv_cn _
  · exact cv_cn _
  · exact cv_cn _
  · exact cv_mk (hf _ (h1 (by omega)))
  · exact cv_ls (hf _ (h1 (by omega))) (hf _ (h2 (by omega)))
  · exact cv_gs (hf _ (h1 (by omega))) (hf _ (h2 (by omega)))
  · split
    · exact hf _ (h2 (by omega))
    · exact hf _ (h3 rfl)
  · exact cv_pw _ _
  · exact hsg _ _ (h5 rfl) (hf _ (h1 (by omega)))
  · exact hc
theorem ndok_tc {n ns q : Nat} {kd a b c : Int32} (h : NdOK n ns q kd a b c) (hq : q < 1000) (hn : n < 1000) (hs : ns < 1000) : tc kd ≤ 13 ∧ (tc kd = 0 → tc a < n) ∧ (2 ≤ tc kd ∧ tc kd ≤ 12 → tc a < q) ∧ ((2 ≤ tc kd ∧ tc kd ≤ 5) ∨ (8 ≤ tc kd ∧ tc kd ≤ 10) → tc b < q) ∧ (tc kd = 10 → tc c < q) ∧ (tc kd = 12 → tc b < ns) := by
  obtain ⟨k, rfl, hk13, h0, h1, h2, h3, h4, h5⟩ := h
  have e : tc (nI k) = k := ni_cl (by omega)
  rw [e]
  refine ⟨hk13, fun q => ?_, fun q => ?_, fun q => ?_, fun q => ?_, fun q => ?_⟩
  · obtain ⟨a', rfl, la⟩ := h0 q; rw [show tc (nI a') = a' from ni_cl (by omega)]; exact la
  · obtain ⟨a', rfl, la⟩ := h1 q; rw [show tc (nI a') = a' from ni_cl (by omega)]; exact la
  · obtain ⟨a', rfl, la⟩ := h2 q; rw [show tc (nI a') = a' from ni_cl (by omega)]; exact la
  · obtain ⟨a', rfl, la⟩ := h3 q; rw [show tc (nI a') = a' from ni_cl (by omega)]; exact la
  · obtain ⟨a', rfl, la⟩ := h5 q; rw [show tc (nI a') = a' from ni_cl (by omega)]; exact la
/-- the signals' values are values -/
def SvOK (h : Hp) (m : Nat) : Prop := ∀ j, Cv (hpD h (m + 13) j)
theorem cv_wR {h : Hp} {m l n ns N q : Nat} {t : UInt64} {x f : Nat → UInt64} (L : LwOK h m l n ns N) (hsg : SgOK h m ns) (hsv : SvOK h m) (hq : q < N) (ht : Cv t) (hx : ∀ j, j < n → Cv (x j)) (hf : ∀ j, j < q → Cv (f j)) : Cv (wR h m l t x q f) := by
  obtain ⟨hl, hN, hn1, hn6, -, -, hnd⟩ := L
  obtain ⟨h1, h2⟩ := hnd q hq
  obtain ⟨-, g0, g1, g2, g3, g5⟩ := ndok_tc h1 (by omega) (by omega) (by have := hsg.1; omega)
  exact cv_wV h2 ht hx hf (fun s v _ hv => cv_sg hv (fun j => hsv _)) g0 g1 g2 g3 g5
theorem sgR_rw {h : Hp} {m a : Nat} {G : Nat → UInt64} (h1 : m + 12 ≠ a) (h2 : m + 13 ≠ a) : sgR (rwD h a G) m = sgR h m := by
  funext s v
  unfold sgR
  rw [hpI_rwD, hpD_rwD_ne h1, hpD_rwD_ne h2]
theorem wR_rw {h : Hp} {m l st q : Nat} {t : UInt64} {G : Nat → UInt64} (hst2 : st ≠ m + 44) : wR (rwD h (m + 44) G) m l t (hpD (rwD h (m + 44) G) st) q (hpD (rwD h (m + 44) G) (m + 44)) = wR h m l t (hpD h st) q G := by
  unfold wR
  rw [hpD_rwD_self, hpD_rwD_ne hst2, hpI_rwD, hpD_rwD_ne (show m + 9 ≠ m + 44 by omega), sgR_rw (by omega) (by omega)]
theorem r_all_loop {h : Hp} {m l n ns N st : Nat} {t : UInt64} (H : RO h m) (L : LwOK h m l n ns N) (hsg : SgOK h m ns) (hsv : SvOK h m) (hst : hpK h st = some (10, 6)) (hst2 : st ≠ m + 44) (ht : Cv t) (hx : ∀ j, j < n → Cv (hpD h st j)) (f0 : Nat → UInt64) :
    ∀ (d q fuel : Nat), q + d = N → d < fuel → f_X9_all_3 fuel (some m) (nI l) t (some st) (nI q) (rwD h (m + 44) (nvS (wR h m l t (hpD h st)) q f0)) = some ((), rwD h (m + 44) (nvS (wR h m l t (hpD h st)) N f0)) := by
  obtain ⟨hl, hN, hn1, hn6, e1, e3, hnd⟩ := id L
  have hcv : ∀ q, q ≤ N → ∀ j, j < q → Cv (nvS (wR h m l t (hpD h st)) q f0 j) := nvS_cv (fun q g hq hg => cv_wR L hsg hsv hq ht hx hg)
  intro d
  induction d with
  | zero =>
    intro q fuel hq hf
    obtain ⟨fuel, rfl⟩ : ∃ j, fuel = j + 1 := ⟨fuel - 1, by omega⟩
    have : q = N := by omega
    subst this
    have H' := H.rwD (m + 44) (nvS (wR h m l t (hpD h st)) q f0)
    rw [f_X9_all_3, ro_g2 H', Option.bind_some, ro_a2 H' hl, Option.bind_some, hpI_rwD, e3, if_pos ((ni_le (by omega) (by omega)).mpr (Nat.le_refl _))]
  | succ d ih =>
    intro q fuel hq hf
    obtain ⟨fuel, rfl⟩ : ∃ j, fuel = j + 1 := ⟨fuel - 1, by omega⟩
    have H' := H.rwD (m + 44) (nvS (wR h m l t (hpD h st)) q f0)
    rw [f_X9_all_3, ro_g2 H', Option.bind_some, ro_a2 H' hl, Option.bind_some, hpI_rwD, e3, if_neg (by rw [ni_le (by omega) (by omega)]; omega), ro_g46 H', Option.bind_some, ro_ck H', Option.bind_some]
    have hw := r_worth (h := rwD h (m + 44) (nvS (wR h m l t (hpD h st)) q f0)) (t := t) (ns := ns) H' hl (show q < 48 by omega) hn6 (st := st)
      (by
        refine ⟨hsg.1, fun s hs => ?_⟩
        obtain ⟨np, a1, a2, a3⟩ := hsg.2 s hs
        refine ⟨np, a1, a2, fun j hj => ?_⟩
        rw [hpD_rwD_ne (by omega)]
        exact a3 j hj) hst (hnd q (by omega)).1 (fun j hj => by rw [hpD_rwD_self]; exact hcv q (by omega) j hj)
    rw [hw, bnd_some, ro_s46 H' (by omega), Option.bind_some, rwD_stD, li1, ni_add]
    rw [wR_rw hst2]
    exact ih (q + 1) fuel (by omega) (by omega)
theorem r_all {h : Hp} {m l n ns N st : Nat} {t : UInt64} (H : RO h m) (L : LwOK h m l n ns N) (hsg : SgOK h m ns) (hsv : SvOK h m) (hst : hpK h st = some (10, 6)) (hst2 : st ≠ m + 44) (ht : Cv t) (hx : ∀ j, j < n → Cv (hpD h st j)) :
    f_X9_all m (nI l) t (some st) h = some ((), rwD h (m + 44) (nvS (wR h m l t (hpD h st)) N (hpD h (m + 44)))) := by
  unfold f_X9_all
  have := r_all_loop H L hsg hsv hst hst2 ht hx (hpD h (m + 44)) N 0 fuelN (by omega) (by have := L.2.1; unfold fuelN; omega)
  rw [nvS, rwD_self] at this
  exact this
