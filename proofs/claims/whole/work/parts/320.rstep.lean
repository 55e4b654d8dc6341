/-! ===== loops that write a row ===== -/
theorem row_loop {β : Type} (F : Nat → Int32 → Hp → Option β) {h : Hp} {dst n : Nat} {E : Nat → UInt64} {old : Nat → UInt64} {res : Option β} (hn : n < 1000)
    (hstep : ∀ fuel i, i < n → F (fuel + 1) (nI i) (rwD h dst (rowU i E old)) = F fuel (nI (i + 1)) (rwD h dst (rowU (i + 1) E old)))
    (hend : ∀ fuel, F (fuel + 1) (nI n) (rwD h dst (rowU n E old)) = res) : F fuelN 0 (rwD h dst old) = res := by
  have key : ∀ (d i fuel : Nat), i + d = n → d < fuel → F fuel (nI i) (rwD h dst (rowU i E old)) = res := by
    intro d
    induction d with
    | zero =>
      intro i fuel hi hf
      obtain ⟨fuel, rfl⟩ : ∃ j, fuel = j + 1 := ⟨fuel - 1, by omega⟩
      have : i = n := by omega
      subst this
      exact hend fuel
    | succ d ih =>
      intro i fuel hi hf
      obtain ⟨fuel, rfl⟩ : ∃ j, fuel = j + 1 := ⟨fuel - 1, by omega⟩
      rw [hstep fuel i (by omega)]
      exact ih (i + 1) fuel (by omega) (by omega)
  have := key n 0 fuelN (by omega) (by unfold fuelN; omega)
  rw [rowU_0] at this
  exact this
/-- only the reference's workplaces may differ -/
def Scr (h0 h : Hp) (m : Nat) : Prop := hpS h = hpS h0 ∧ hpK h = hpK h0 ∧ hpR h = hpR h0 ∧ (∀ a, a ≠ m → hpI h a = hpI h0 a) ∧ (∀ k, k ≠ 60 → k ≠ 61 → hpI h m k = hpI h0 m k) ∧ ∀ a, (a < m + 44 ∨ m + 53 < a ∨ a = m + 45) → hpD h a = hpD h0 a
theorem Scr.refl (h : Hp) (m : Nat) : Scr h h m := ⟨rfl, rfl, rfl, fun _ _ => rfl, fun _ _ _ => rfl, fun _ _ => rfl⟩
theorem Scr.trans {h0 h1 h2 : Hp} {m : Nat} (a : Scr h0 h1 m) (b : Scr h1 h2 m) : Scr h0 h2 m :=
  ⟨b.1.trans a.1, b.2.1.trans a.2.1, b.2.2.1.trans a.2.2.1, fun q hq => (b.2.2.2.1 q hq).trans (a.2.2.2.1 q hq), fun k h1 h2 => (b.2.2.2.2.1 k h1 h2).trans (a.2.2.2.2.1 k h1 h2), fun q hq => (b.2.2.2.2.2 q hq).trans (a.2.2.2.2.2 q hq)⟩
theorem Scr.rwD {h0 h : Hp} {m : Nat} (a : Scr h0 h m) (b : Nat) (f : Nat → UInt64) (hb : m + 44 ≤ b ∧ b ≤ m + 53 ∧ b ≠ m + 45) : Scr h0 (rwD h b f) m :=
  ⟨a.1, a.2.1, a.2.2.1, a.2.2.2.1, a.2.2.2.2.1, fun q hq => by rw [hpD_rwD_ne (by omega)]; exact a.2.2.2.2.2 q hq⟩
theorem Scr.stI {h0 h : Hp} {m : Nat} (a : Scr h0 h m) (k : Nat) (v : Int32) (hk : k = 60 ∨ k = 61) : Scr h0 (stI h m k v) m :=
  ⟨a.1, a.2.1, a.2.2.1, fun q hq => by funext j; rw [hpI_stI, if_neg hq]; exact congrFun (a.2.2.2.1 q hq) j, fun j h1 h2 => by rw [hpI_stI, if_pos rfl, if_neg (by omega)]; exact a.2.2.2.2.1 j h1 h2, a.2.2.2.2.2⟩
/-- a law of the reference, ready to be run -/
def SX (h : Hp) (m l n ns N : Nat) : Prop := RO h m ∧ LwOK h m l n ns N ∧ SgOK h m ns ∧ SvOK h m ∧ SdOK h m l n N
theorem scr_RO {h0 h : Hp} {m : Nat} (S : Scr h0 h m) (H : RO h0 m) : RO h m := ⟨fun k => by rw [S.2.2.1]; exact H.1 k, fun q hq => by rw [S.2.1]; exact H.2 q hq⟩
theorem scr_SX {h0 h : Hp} {m l n ns N : Nat} (S : Scr h0 h m) (X : SX h0 m l n ns N) : SX h m l n ns N := by
  obtain ⟨H, ⟨l1, l2, l3, l4, l5, l6, l7⟩, s1, s2, s3⟩ := X
  have hi : ∀ o, 0 < o → hpI h (m + o) = hpI h0 (m + o) := fun o ho => S.2.2.2.1 _ (by omega)
  have hd : ∀ o, o < 44 → hpD h (m + o) = hpD h0 (m + o) := fun o ho => S.2.2.2.2.2 _ (by omega)
  refine ⟨scr_RO S H, ⟨l1, l2, l3, l4, by rw [hi 1 (by omega)]; exact l5, by rw [hi 3 (by omega)]; exact l6, ?_⟩, ?_, ?_, ?_⟩
  · intro q hq
    rw [hi 5 (by omega), hi 6 (by omega), hi 7 (by omega), hi 8 (by omega), hd 9 (by omega)]
    exact l7 q hq
  · refine ⟨s1.1, fun s hs => ?_⟩
    rw [hi 11 (by omega), hd 12 (by omega)]
    exact s1.2 s hs
  · intro j
    rw [hd 13 (by omega)]
    exact s2 j
  · intro i hi2
    rw [hi 4 (by omega)]
    exact s3 i hi2
theorem scr_wR {h0 h : Hp} {m l : Nat} (S : Scr h0 h m) (t : UInt64) (x : Nat → UInt64) : wR h m l t x = wR h0 m l t x := by
  have hi : ∀ o, 0 < o → hpI h (m + o) = hpI h0 (m + o) := fun o ho => S.2.2.2.1 _ (by omega)
  have hd : ∀ o, o < 44 → hpD h (m + o) = hpD h0 (m + o) := fun o ho => S.2.2.2.2.2 _ (by omega)
  funext q f
  have es : sgR h m = sgR h0 m := by
    funext s v
    unfold sgR
    rw [hi 11 (by omega), hi 10 (by omega), hd 12 (by omega), hd 13 (by omega)]
  unfold wR
  rw [es, hi 5 (by omega), hi 6 (by omega), hi 7 (by omega), hi 8 (by omega), hd 9 (by omega)]
theorem scr_fR {h0 h : Hp} {m l N : Nat} (S : Scr h0 h m) (t : UInt64) (x : Nat → UInt64) : fR h m l N t x = fR h0 m l N t x := by
  funext i
  show nvR h m l N t x (tc (hpI h (m + 4) (6 * l + i))) = nvR h0 m l N t x (tc (hpI h0 (m + 4) (6 * l + i)))
  rw [S.2.2.2.1 (m + 4) (by omega)]
  show nvS (wR h m l t x) N _ _ = nvS (wR h0 m l t x) N _ _
  rw [scr_wR S]
theorem wV_depx {k a b c n : Nat} {cst t : UInt64} {x y f : Nat → UInt64} {sg : Nat → UInt64 → UInt64} (hx : ∀ j, j < n → x j = y j) (h0 : k = 0 → a < n) : wV k a b c cst t x f sg = wV k a b c cst t y f sg := by
  unfold wV
  split
  · exact hx _ (h0 rfl)
  all_goals rfl
/-- only the variables' states count -/
theorem fR_dep {h : Hp} {m l n ns N : Nat} {t : UInt64} {x y : Nat → UInt64} (X : SX h m l n ns N) (hxy : ∀ j, j < n → x j = y j) : ∀ i, i < n → fR h m l N t x i = fR h m l N t y i := by
  intro i hi
  obtain ⟨s, es, hs⟩ := X.2.2.2.2 i hi
  have : tc (hpI h (m + 4) (6 * l + i)) < N := by rw [es, show tc (nI s) = s from ni_cl (by have := X.2.1.2.1; omega)]; exact hs
  unfold fR nvR
  refine nvS_any (N := N) (fun q a b hq hab => ?_) N (Nat.le_refl _) _ this
  obtain ⟨hl, hN, hn1, hn6, -, -, hnd⟩ := X.2.1
  obtain ⟨-, g0, g1, g2, g3, -⟩ := ndok_tc (hnd q hq).1 (by omega) (by omega) (by have := X.2.2.1.1; omega)
  unfold wR
  rw [wV_dep hab g1 g2 g3]
  exact wV_depx hxy g0
theorem cv_fR {h : Hp} {m l n ns N : Nat} {t : UInt64} {x : Nat → UInt64} (X : SX h m l n ns N) (ht : Cv t) (hx : ∀ j, j < n → Cv (x j)) : ∀ i, i < n → Cv (fR h m l N t x i) := by
  intro i hi
  obtain ⟨s, es, hs⟩ := X.2.2.2.2 i hi
  have : tc (hpI h (m + 4) (6 * l + i)) < N := by rw [es, show tc (nI s) = s from ni_cl (by have := X.2.1.2.1; omega)]; exact hs
  exact nvS_cv (fun q g hq hg => cv_wR X.2.1 X.2.2.1 X.2.2.2.1 hq ht hx hg) N (Nat.le_refl _) _ this
/-- rates, told by what it changes -/
theorem r_rates' {h : Hp} {m l n ns N st out : Nat} {t : UInt64} (X : SX h m l n ns N) (hst : m + 45 ≤ st ∧ st ≤ m + 54) (hout : m + 46 ≤ out ∧ out ≤ m + 53) (ht : Cv t) (hx : ∀ j, j < n → Cv (hpD h st j)) (hw : hpI h m 60 = 0 ∨ hpI h m 60 = 1) :
    ∃ h', f_X9_rates m (nI l) t (some st) (some out) h = some ((), h') ∧ Scr h h' m ∧ (∀ i, i < n → hpD h' out i = fR h m l N t (hpD h st) i) ∧ (∀ a, a ≠ out → a ≠ m + 44 → hpD h' a = hpD h a) ∧ hpI h' m 60 = wlS (fR h m l N t (hpD h st)) n (hpI h m 60) ∧ hpI h' m 61 = hpI h m 61 := by
  obtain ⟨H, L, s1, s2, s3⟩ := id X
  have hk : ∀ q, m + 45 ≤ q → q ≤ m + 54 → hpK h q = some (10, 6) := by
    intro q h1 h2
    have e := H.2 (q - m) (by omega)
    rw [show m + (q - m) = q by omega] at e
    rw [e]
    rcases (by omega : q - m = 45 ∨ q - m = 46 ∨ q - m = 47 ∨ q - m = 48 ∨ q - m = 49 ∨ q - m = 50 ∨ q - m = 51 ∨ q - m = 52 ∨ q - m = 53 ∨ q - m = 54) with z | z | z | z | z | z | z | z | z | z <;> rw [z] <;> rfl
  obtain ⟨g, hg⟩ := r_rates (t := t) H L s1 s2 s3 (hk st (by omega) (by omega)) (by omega) (hk out (by omega) (by omega)) (by omega) ht hx hw
  refine ⟨_, hg, ?_, fun i hi => ?_, fun a h1 h2 => ?_, ?_, ?_⟩
  · by_cases ho : out = m + 45
    · omega
    · exact (((Scr.refl h m).rwD (m + 44) g (by omega)).rwD out _ (by omega)).stI 60 _ (Or.inl rfl)
  · rw [hpD_stI, hpD_rwD_self, rowU_lt hi]
  · rw [hpD_stI, hpD_rwD_ne h1, hpD_rwD_ne h2]
  · rw [hpI_stI, if_pos rfl, if_pos rfl]
  · rw [hpI_stI, if_pos rfl, if_neg (by decide)]; rfl
/-- y = x + w * k, put -/
def mvV (nar : Int32) (x : Nat → UInt64) (w : UInt64) (k : Nat → UInt64) (i : Nat) : UInt64 := pV (narB nar (nI i)) (cn (FP.dadd (x i) (cn (FP.dmul w (k i)))))
theorem cv_pV {b : Bool} {v : UInt64} (h : Cv v) : Cv (pV b v) := by
  unfold pV
  split
  · rename_i q
    exact Or.inl (nm_f2d (nm_d2f q.2))
  · exact h
theorem cv_mvV (nar : Int32) (x : Nat → UInt64) (w : UInt64) (k : Nat → UInt64) (i : Nat) : Cv (mvV nar x w k i) := cv_pV (cv_cn _)
theorem r_plain {h : Hp} {m l n : Nat} {w : UInt64} (H : RO h m) (hl : l < 8) (hn : n ≤ 6) : f_X9_plain m (nI l) (nI n) w h = some ((), rwD h (m + 47) (rowU n (mvV (hpI h (m + 2) l) (hpD h (m + 45)) w (hpD h (m + 50))) (hpD h (m + 47)))) := by
  unfold f_X9_plain
  have := row_loop (fun fuel i hh => f_X9_plain_3 fuel (some m) (nI l) (nI n) w i hh) (h := h) (dst := m + 47) (n := n) (E := mvV (hpI h (m + 2) l) (hpD h (m + 45)) w (hpD h (m + 50))) (old := hpD h (m + 47)) (res := some ((), rwD h (m + 47) (rowU n (mvV (hpI h (m + 2) l) (hpD h (m + 45)) w (hpD h (m + 50))) (hpD h (m + 47))))) (by omega) ?_ ?_
  · rw [rwD_self] at this
    exact this
  · intro fuel i hi
    have H' := H.rwD (m + 47) (rowU i (mvV (hpI h (m + 2) l) (hpD h (m + 45)) w (hpD h (m + 50))) (hpD h (m + 47)))
    simp only [f_X9_plain_3, if_neg (show ¬ nI n ≤ nI i by rw [ni_le (by omega) (by omega)]; omega), ro_g49 H', ro_g47 H', ro_g52 H', Option.bind_some, ro_a47 H' (show i < 6 by omega), ro_a52 H' (show i < 6 by omega), r_times, r_plus, bnd_some, ro_ck H', r_put H' hl, ro_s49 H' (show i < 6 by omega), rwD_stD, li1, ni_add, hpI_rwD, hpD_rwD_ne (show m + 45 ≠ m + 47 by omega), hpD_rwD_ne (show m + 50 ≠ m + 47 by omega)]
    rw [← rowU_s]
    rfl
  · intro fuel
    simp only [f_X9_plain_3, if_pos (show nI n ≤ nI n from (ni_le (by omega) (by omega)).mpr (Nat.le_refl _))]
