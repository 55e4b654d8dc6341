/-! ===== the halves ===== -/
theorem xo_g10 {h : Hp} {c : Nat} (X : XO h c) : getR h (some c) 8 10 = some (some (c + 37)) := by rw [getR_ok X.1, X.2.2.2.2.2.2.2.2.1]
def PH (c L a : Nat) : Prop := Pn (c + 1) L a ∨ (c + 8 ≤ a ∧ a < c + 66)
def QH (c a : Nat) : Prop := a = c + 8 ∨ a = c + 37
def HV (h0 h : Hp) (c l n ns N L r : Nat) (A : RecT) : Prop := XO h c ∧ WR h (c + 66) l n ns N (c + 1) L (c + 5) r ∧ S0 h (c + 8) (c + 1) ∧ SN h (c + 8) ∧ S0 h (c + 37) (c + 1) ∧ SN h (c + 37) ∧ CR h r n A ∧ Fx (PH c L) (QH c) h0 h
theorem hv_me {h0 h : Hp} {c l n ns N L r : Nat} {A : RecT} (hL : c + 124 ≤ L) (V : HV h0 h c l n ns N L r A) : ∀ o, o < 58 → hpI h (c + 66 + o) = hpI h0 (c + 66 + o) ∧ hpD h (c + 66 + o) = hpD h0 (c + 66 + o) := fun o ho => V.2.2.2.2.2.2.2.2.2.2 _ (by unfold PH Pn; omega)
theorem hv_make {h0 h : Hp} {c l n ns N L r M T xr : Nat} {A : RecT} {t hh : UInt64} (hL : c + 124 ≤ L) (hr : c + 124 ≤ r) (hT : T = c + 8 ∨ T = c + 37) (V : HV h0 h c l n ns N L r A) (xw : RW h xr 6) (xn : RN h xr 6) (x1 : ¬ PT (c + 1) L T (xr + 1)) (x2 : ¬ PT (c + 1) L T (xr + 2)) (hM6 : M ≤ 6) (nt : Nm t) (fh : HB hh) :
    ∃ w h', f_X6_make T (some L) (nI M) t (some xr) hh h = some (w, h') ∧ HV h0 h' c l n ns N L r A ∧ (w = 0 ∨ w = 1) ∧ (w = 1 ↔ Tame (fR h0 (c + 66) l N) (hpI h0 (c + 66 + 2) l) n M t hh (RV h xr)) ∧ (w = 1 → SD h' T n M (fR h0 (c + 66) l N) (hpI h0 (c + 66 + 2) l) t hh (RV h xr)) ∧ Fr (PT (c + 1) L T) (stR h T 1 (some L)) h' := by
  have me : ME h0 h (c + 66) := fun o _ ho => hv_me hL V o (by omega)
  rw [← me_fR me, ← me_nar (l := l) me]
  obtain ⟨X, W, S, sT, S2, sT2, C, F⟩ := V
  have p1 := W.1.2.2.2.2.2.2.2.1
  have p2 := W.1.2.2.2.2.2.2.2.2.1
  have ST0 : S0 h T (c + 1) := by rcases hT with rfl | rfl; exact S; exact S2
  have SNT : SN h T := by rcases hT with rfl | rfl; exact sT; exact sT2
  have W' := wr_stR (b := T) (v := some L) W ST0.1 (by omega)
  have hR : hpR (stR h T 1 (some L)) T 1 = some L := by rw [hpR_stR, if_pos rfl, if_pos rfl]
  have WTm : WT (stR h T 1 (some L)) (c + 66) l n ns N (c + 1) L (c + 5) T := ⟨W'.1, s0_st (s0_stR ST0 (by rw [ST0.1]; decide) (by rw [ST0.1]; decide) (fun _ => rfl)) hR, fun q hq => SNT q hq, by omega, by omega, by omega, fun s' hs' S' hS' => by have := (W'.1.2.2.2.2.2.2.2.2.2 s' hs' S' hS').1; omega⟩
  have np : ∀ a, r ≤ a → a < r + 41 → ¬ PT (c + 1) L T a := fun a h1 h2 z => by
    rcases z with z | z
    · exact r_ne W h1 h2 z
    · omega
  obtain ⟨w, h8, e8, W8, F8, w01, w1, sd⟩ := c_make (xr := xr) WTm xw xn x1 x2 hM6 nt fh
  have fx8 : Fx (PT (c + 1) L T) (fun a => a = T) h h8 := (fx_stR (Q := fun a => a = T) rfl).trans F8.fx
  have fxh : Fx (PH c L) (QH c) h h8 := fx8.mono (fun a z => by
    rcases z with z | z
    · exact Or.inl z
    · exact Or.inr (by omega)) (fun a z => by unfold QH; omega)
  have other : ∀ T', (T' = c + 8 ∨ T' = c + 37) → T' ≠ T → ∀ a, T' ≤ a → a < T' + 29 → ¬ PT (c + 1) L T a := fun T' h1 h2 a h3 h4 z => by
    unfold PT Pn at z; omega
  refine ⟨w, h8, e8, ⟨xo_fx fxh (by unfold QH; omega) (by unfold QH; omega) X, wr_oth W' F8 W8.1 np, ?_, ?_, ?_, ?_, cr_fr (cr_stR C (by omega) (by omega)) F8 (fun a h1 h2 _ _ _ => np a h1 h2), F.trans fxh⟩, w01, w1, fun z => (sd z).1, F8⟩
  · by_cases e : c + 8 = T
    · rw [e]; exact st_s0 W8.2.1
    · exact s0_fx fx8 (fun a h1 h2 z => by omega) S
  · by_cases e : c + 8 = T
    · rw [e]; exact W8.2.2.1
    · exact sn_fx fx8 (other (c + 8) (Or.inl rfl) e) sT
  · by_cases e : c + 37 = T
    · rw [e]; exact st_s0 W8.2.1
    · exact s0_fx fx8 (fun a h1 h2 z => by omega) S2
  · by_cases e : c + 37 = T
    · rw [e]; exact W8.2.2.1
    · exact sn_fx fx8 (other (c + 37) (Or.inr rfl) e) sT2
theorem rv_raw {h : Hp} {a i : Nat} (f : Fn (RV h a i)) : hpD h (a + 1) i = RV h a i := by
  unfold RV at f ⊢
  split
  · rfl
  · rename_i z
    rw [if_neg z] at f
    exfalso
    revert f
    unfold Fn
    have : (ky nanV).natAbs = 9221120237041090560 := by unfold nanV; decide +kernel
    omega
def HvA (F : FT) (nar : Int32) (n M i : Nat) (t hh : UInt64) (x : Nat → UInt64) (a : Int64) : Prop :=
  (¬ Tame F nar n M t hh x → a = 9221120237041090560) ∧
  (Tame F nar n M t hh x → ¬ Tame F nar n M t (FP.ddiv hh 4611686018427387904) x → a = 9221120237041090560) ∧
  (Tame F nar n M t hh x → Tame F nar n M t (FP.ddiv hh 4611686018427387904) x → ¬ Tame F nar n M (FP.dadd t (FP.ddiv hh 4611686018427387904)) (FP.ddiv hh 4611686018427387904) (zS F nar n M t (FP.ddiv hh 4611686018427387904) x) → a = 9221120237041090560) ∧
  (Tame F nar n M t hh x → Tame F nar n M t (FP.ddiv hh 4611686018427387904) x → Tame F nar n M (FP.dadd t (FP.ddiv hh 4611686018427387904)) (FP.ddiv hh 4611686018427387904) (zS F nar n M t (FP.ddiv hh 4611686018427387904) x) → a = tell (FP.dsub (zS F nar n M (FP.dadd t (FP.ddiv hh 4611686018427387904)) (FP.ddiv hh 4611686018427387904) (zS F nar n M t (FP.ddiv hh 4611686018427387904) x) i) (zS F nar n M t hh x i)))
theorem hva_eq {F : FT} {nar : Int32} {n M i : Nat} {t hh : UInt64} {x : Nat → UInt64} {a b : Int64} (A : HvA F nar n M i t hh x a) (B : HvA F nar n M i t hh x b) : a = b := by
  obtain ⟨a1, a2, a3, a4⟩ := A
  obtain ⟨b1, b2, b3, b4⟩ := B
  by_cases z1 : Tame F nar n M t hh x
  · by_cases z2 : Tame F nar n M t (FP.ddiv hh 4611686018427387904) x
    · by_cases z3 : Tame F nar n M (FP.dadd t (FP.ddiv hh 4611686018427387904)) (FP.ddiv hh 4611686018427387904) (zS F nar n M t (FP.ddiv hh 4611686018427387904) x)
      · rw [a4 z1 z2 z3, b4 z1 z2 z3]
      · rw [a3 z1 z2 z3, b3 z1 z2 z3]
    · rw [a2 z1 z2, b2 z1 z2]
  · rw [a1 z1, b1 z1]
theorem hb_half {hh : UInt64} (fh : HB hh) : HB (FP.ddiv hh 4611686018427387904) := hb_div (k := 4611686018427387904) fh (by decide +kernel) (by omega)
theorem row_cp {β : Type} (K : Nat → Int32 → Hp → Option β) {h : Hp} {src dst n : Nat} {E : Nat → UInt64} {res : Hp → Option β} (hn : n ≤ 6) (hE : ∀ i, i < n → ∀ old, E i = hpD (rwD h dst old) src i ∨ True) (hstep : ∀ fuel i, i < n → K (fuel + 1) (nI i) (rwD h dst (rowU i E (hpD h dst))) = K fuel (nI (i + 1)) (rwD h dst (rowU (i + 1) E (hpD h dst))))
    (hend : ∀ fuel, K (fuel + 1) (nI n) (rwD h dst (rowU n E (hpD h dst))) = res (rwD h dst (rowU n E (hpD h dst)))) : K fuelN 0 h = res (rwD h dst (rowU n E (hpD h dst))) := by
  have := row_loop K (h := h) (dst := dst) (n := n) (E := E) (old := hpD h dst) (res := res (rwD h dst (rowU n E (hpD h dst)))) (by omega) hstep hend
  rw [rwD_self] at this
  exact this
theorem r_half3 {h : Hp} {m l n ns N s i M : Nat} {A : RecT} {hh : UInt64} {W z2 : Nat → UInt64} (X : SX h m l n ns N) (hs : s < 9) (R : RR h m s n A) (hM : A.1 15 0 = nI M) (hM6 : M ≤ 6) (fh : HB hh) (nt : Nm (FP.dadd (A.2 24 0) (FP.ddiv hh 4611686018427387904))) (hi : i < n) (ez : ∀ i, i < n → hpD h (m + 47) i = z2 i) (cz : ∀ i, i < n → Cv (z2 i)) (ew : ∀ i, i < n → hpD h (m + 55) i = W i) (fw : ∀ i, i < n → Fn (W i)) :
    ∃ a h', f_X9_halves_189 fuelN (some m) (nI s) (nI i) (nI l) (nI n) hh 0 h = some (a, h') ∧ Fs h h' m 8 ∧ (¬ Tame (fR h m l N) (hpI h (m + 2) l) n M (FP.dadd (A.2 24 0) (FP.ddiv hh 4611686018427387904)) (FP.ddiv hh 4611686018427387904) z2 → a = 9221120237041090560) ∧ (Tame (fR h m l N) (hpI h (m + 2) l) n M (FP.dadd (A.2 24 0) (FP.ddiv hh 4611686018427387904)) (FP.ddiv hh 4611686018427387904) z2 → a = tell (FP.dsub (zS (fR h m l N) (hpI h (m + 2) l) n M (FP.dadd (A.2 24 0) (FP.ddiv hh 4611686018427387904)) (FP.ddiv hh 4611686018427387904) z2 i) (W i))) := by
  obtain ⟨H, L, s1, s2, s3⟩ := id X
  have hn := L.2.2.2.1
  have fh2 := hb_half fh
  have lp := row_cp (fun fuel j hh' => f_X9_halves_189 fuel (some m) (nI s) (nI i) (nI l) (nI n) hh j hh') (h := h) (src := m + 47) (dst := m + 45) (n := n) (E := z2) (res := fun g => f_X9_halves_189 1 (some m) (nI s) (nI i) (nI l) (nI n) hh (nI n) g) hn (fun _ _ _ => Or.inr trivial) (by
    intro fuel j hj
    have H' := H.rwD (m + 45) (rowU j z2 (hpD h (m + 45)))
    rw [f_X9_halves_189, if_neg (show ¬ nI n ≤ nI j by rw [ni_le (by omega) (by omega)]; omega), ro_g47 H', Option.bind_some, ro_g49 H', Option.bind_some, ro_a49 H' (by omega), Option.bind_some, hpD_rwD_ne (by omega), ez j hj, ro_s47 H' (by omega), Option.bind_some, rwD_stD, rowU_s, li1, ni_add]) (by
    intro fuel
    rw [f_X9_halves_189, f_X9_halves_189, if_pos (show nI n ≤ nI n from (ni_le (by omega) (by omega)).mpr (Nat.le_refl _)), if_pos (show nI n ≤ nI n from (ni_le (by omega) (by omega)).mpr (Nat.le_refl _))])
  rw [lp]
  have F0 : Fs h (rwD h (m + 45) (rowU n z2 (hpD h (m + 45)))) m 8 := fs_wk 8 _ (by omega)
  have R0 : RR (rwD h (m + 45) (rowU n z2 (hpD h (m + 45)))) m s n A := rr_wk (by omega) R
  have x0 : ∀ i, i < n → hpD (rwD h (m + 45) (rowU n z2 (hpD h (m + 45)))) (m + 45) i = z2 i := fun i hi => by rw [hpD_rwD_self, rowU_lt hi]
  have w0 : ∀ i, i < n → hpD (rwD h (m + 45) (rowU n z2 (hpD h (m + 45)))) (m + 55) i = W i := fun i hi => by rw [hpD_rwD_ne (by omega)]; exact ew i hi
  generalize rwD h (m + 45) (rowU n z2 (hpD h (m + 45))) = g at F0 R0 x0 w0 ⊢
  have Xg := le_SX F0.2.1 X
  have Hg := Xg.1
  obtain ⟨w, h', e, S, w01, wT, -, zz, -⟩ := r_made' Xg hM6 nt fh2 x0 cz
  rw [le_fR F0.2.1, le_nar F0.2.1] at wT zz
  have H' := (le_SX S.le Xg).1
  rw [f_X9_halves_189, if_pos (show nI n ≤ nI n from (ni_le (by omega) (by omega)).mpr (Nat.le_refl _)), ro_g16 Hg, Option.bind_some, ro_a16 Hg hs, Option.bind_some, R0.1 15 (by omega) (by omega), hM, ro_g25 Hg, Option.bind_some, ro_a25 Hg hs, Option.bind_some, R0.2.2.1 24 (by omega) (by omega), fop_ok fh2.fn.nm, Option.bind_some, fop_ok nt, Option.bind_some, Option.bind_some, ro_ck Hg, Option.bind_some, e, bnd_some]
  by_cases z : w = 0
  · have T3 := wT.mp z
    have fz := T3.2.2.2.1 i hi
    have nd : Nm (FP.dsub (zS (fR h m l N) (hpI h (m + 2) l) n M (FP.dadd (A.2 24 0) (FP.ddiv hh 4611686018427387904)) (FP.ddiv hh 4611686018427387904) z2 i) (W i)) := dsub_nm.mpr ⟨fz.nm, (fw i hi).nm, fun q => by have := fnk fz; omega⟩
    rw [if_pos z, ro_g49 H', Option.bind_some, ro_a49 H' (by omega), Option.bind_some, ro_g57 H', Option.bind_some, ro_a57 H' (by omega), Option.bind_some, zz i hi, S.2.2.2.2.2 (m + 55) (by omega), w0 i hi, fop_ok nd, Option.bind_some, r_bits, bnd_some]
    exact ⟨_, _, rfl, F0.trans (S.fs 8), fun q => absurd T3 q, fun _ => rfl⟩
  · rw [if_neg z]
    exact ⟨_, _, rfl, F0.trans (S.fs 8), fun _ => rfl, fun q => absurd (wT.mpr q) z⟩
