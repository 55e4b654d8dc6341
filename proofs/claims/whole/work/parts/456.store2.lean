theorem xo_g0 {h : Hp} {c : Nat} (X : XO h c) : getR h (some c) 8 0 = some (some (c + 1)) := by rw [getR_ok X.1, X.2.1]
theorem xo_g8 {h : Hp} {c : Nat} (X : XO h c) : getR h (some c) 8 8 = some (some (c + 7)) := by rw [getR_ok X.1, X.2.2.2.2.2.2.1]
theorem xo_k7 {h : Hp} {c : Nat} (X : XO h c) : hpK h (c + 7) = some (15, 5) := X.2.2.2.2.2.2.2.2.2.2.2.2.1
theorem xo_S {h : Hp} {c : Nat} (X : XO h c) : c + 124 ≤ hpS h := X.2.2.2.2.2.2.2.2.2.2.2.2.2.2.2.2
def flg (g : Hp) (c p : Nat) : Hp := if p < 4 then stI g (c + 66 + 23) p 1 else g
theorem stI_id {h : Hp} {a k : Nat} {v : Int32} (e : hpI h a k = v) : stI h a k v = h := by
  rw [stI_rw, show up1 (hpI h a) k v = hpI h a by
    funext j
    unfold up1
    split
    · rename_i z; rw [z, e]
    · rfl]
  exact rwI_self _ _
theorem c_store {b : Nat} {h : Hp} {c nl ns nr s p : Nat} {Lw nv nn Ob : Nat → Nat} {ex : Nat → Bool} {rl : Nat → Nat} {Rc : Nat → RecT} {τ : Nat → Nat} (I : IG b h c 9 nl ns nr Lw nv nn Ob ex rl Rc τ) (hs : s < nr) (hp : p < 5) :
    ∃ r' h1 Ob' ex' τ', f_X8_store c (some (Ob s)) (nI p) h = some (some r', h1) ∧ IG b (flg h1 c p) c (4 + p) nl ns nr Lw nv nn Ob' ex' rl Rc τ' ∧ Ob' (4 + p) = r' ∧ ex' (4 + p) = true ∧ (∀ q, q < 4 → Ob' q = Ob q) ∧ hpR h1 r' 0 = some (Lw (rl s)) ∧ CR h1 r' (nv (rl s)) (Rc s) ∧ (∀ o, o < 58 → hpI h1 (c + 66 + o) = hpI h (c + 66 + o) ∧ hpD h1 (c + 66 + o) = hpD h (c + 66 + o)) ∧ RO h1 (c + 66) := by
  have X := I.1.1
  have H := I.1.2.2.2.2.2.2.2
  have nr4 := I.2.1.2.2.1
  obtain ⟨s4, he, hl, si, W⟩ := sl I hs
  have B := W.2.1
  obtain ⟨hn, hn1, hN, l8, e1, e3, en, eN, -⟩ := wr_nv W
  obtain ⟨sd, al, R, C, va, r0⟩ := si
  have b1 := (I.2.2.2.2.2.2.2.2.2.2.2.2 s (by omega) he)
  have b11 := b1.1
  have b12 := b1.2.1
  have kp := I.2.2.2.2.2.2.2.2.1 p hp
  have h7 : hpI h (Ob s) 7 = 0 ∨ hpI h (Ob s) 7 = 1 := by rw [(cr_h C).2.2.2.2.2.1]; exact va.2.2.2.2.1
  unfold f_X8_store f_X8_store_38
  rw [xo_g8 X, Option.bind_some, aldR_ok (xo_k7 X) (ni_in hp (by omega)), ni_cl (by omega), Option.bind_some, kp]
  cases ee : ex (4 + p) with
  | true =>
    have b2 := (I.2.2.2.2.2.2.2.2.2.2.2.2 (4 + p) (by omega) ee)
    have b21 := b2.1
    have x2 := I.2.2.2.2.2.1 (4 + p) (by omega) ee
    have dj := bk_dj b1 b2 (by omega) (by omega) (by omega)
    obtain ⟨h1, ec, RB1, RN1, SN1, rf1, CR1, F1⟩ := c_runcopy x2.1 B dj W.2.2.1 W.2.2.2.1 x2.2.2 h7
    have I1 := ig_own (ig_weak (s0 := 4 + p) I) (by omega) ee hl (Q := fun a => a = Ob (4 + p) ∨ a = Ob (4 + p) + 12) (fun a z => z) F1 ⟨RB1, RN1, SN1⟩
    rw [if_pos rfl, if_pos (by simp), rb_ck x2.1, Option.bind_some, ec, bnd_some]
    have fe : ∀ o, o < 58 → hpI h1 (c + 66 + o) = hpI h (c + 66 + o) ∧ hpD h1 (c + 66 + o) = hpD h (c + 66 + o) := fun o ho => F1.2.2.2 _ (by omega)
    have fl : flg h1 c p = h1 := by
      unfold flg
      split
      · rename_i p4
        exact stI_id (by rw [I1.2.2.2.2.2.2.2.2.2.1 p p4, ee, if_pos rfl])
      · rfl
    exact ⟨Ob (4 + p), h1, Ob, ex, τ, rfl, by rw [fl]; exact I1, rfl, ee, fun _ _ => rfl, by rw [rf1]; exact r0, CR1 _ _ hn C, fe, I1.1.2.2.2.2.2.2.2⟩
  | false =>
    have hS := xo_S X
    rw [if_neg (by simp)]
    unfold newo
    have K4 : hpK (alo h (4, 0)) (Ob s) = some (4, 0) := by rw [hpK_alo, if_neg (by omega)]; exact B.1
    have R4 : ∀ j, hpR (alo h (4, 0)) (Ob s) j = hpR h (Ob s) j := fun j => by rw [hpR_alo, if_neg (by omega)]
    have D4 : ∀ j, hpD (alo h (4, 0)) (Ob s) j = hpD h (Ob s) j := fun j => by rw [hpD_alo, if_neg (by omega)]
    have K8 : hpK (alo h (4, 0)) c = some (8, 0) := by rw [hpK_alo, if_neg (by omega)]; exact X.1
    have R8 : hpR (alo h (4, 0)) c 0 = some (c + 1) := by rw [hpR_alo, if_neg (by omega)]; exact X.2.1
    obtain ⟨h0, e0, s0, RB0, RN0, SN0, rf0, -, U0⟩ := run_new h (k := c + 1) (L := some (Lw (rl s))) (t := (Rc s).2 24 0)
    have G0 : Gr (fun a => a = c + 7 ∨ a = c + 66 + 23) h h0 := (gr_ux U0 (by omega)).mono (fun a _ z => z.elim)
    have q0 : ∀ a, a < hpS h → hpI h0 a = hpI h a ∧ hpD h0 a = hpD h a ∧ hpR h0 a = hpR h a := fun a ha => ⟨(U0 a ha).2.1, (U0 a ha).2.2.1, (U0 a ha).2.2.2 (fun z => z)⟩
    have K80 : hpK h0 c = some (8, 0) := by rw [(U0 c (by omega)).1]; exact X.1
    have K70 : hpK h0 (c + 7) = some (15, 5) := by rw [(U0 _ (by omega)).1]; exact xo_k7 X
    have g80 : getR h0 (some c) 8 8 = some (some (c + 7)) := by rw [getR_ok K80, (q0 c (by omega)).2.2, X.2.2.2.2.2.2.1]
    have s2 : hpS (stR h0 (c + 7) p (some (hpS h))) = hpS h + 41 := s0
    have RB2 : RB (stR h0 (c + 7) p (some (hpS h))) (hpS h) (c + 1) := rb_stR RB0 (by rw [K70]; decide) (by rw [K70]; decide) (by rw [K70]; decide) (fun e => by omega) (fun e => by omega)
    have G2 : Gr (fun a => a = c + 7 ∨ a = c + 66 + 23) h (stR h0 (c + 7) p (some (hpS h))) := G0.trans (gr_stR (Or.inl rfl))
    have nD : ∀ a, Ob s ≤ a → a < Ob s + 41 → ¬ (a = c + 7 ∨ a = c + 66 + 23) := fun a h1 h2 z => by omega
    have BS2 : RX (stR h0 (c + 7) p (some (hpS h))) (Ob s) (c + 1) := gr_rx G2 b12 nD ⟨B, W.2.2.1, W.2.2.2.1⟩
    have CS2 : CR (stR h0 (c + 7) p (some (hpS h))) (Ob s) (nv (rl s)) (Rc s) := gr_cr C G2 b12 nD
    have h72 : hpI (stR h0 (c + 7) p (some (hpS h))) (Ob s) 7 = 0 ∨ hpI (stR h0 (c + 7) p (some (hpS h))) (Ob s) 7 = 1 := by rw [(cr_h CS2).2.2.2.2.2.1]; exact va.2.2.2.2.1
    obtain ⟨h1, ec, RB1, RN1, SN1, rf1, CR1, F1⟩ := c_runcopy RB2 BS2.1 (by omega) BS2.2.1 BS2.2.2 SN0 h72
    have fe2 : ∀ a, a < hpS h → hpI h1 a = hpI (stR h0 (c + 7) p (some (hpS h))) a ∧ hpD h1 a = hpD (stR h0 (c + 7) p (some (hpS h))) a := fun a ha => F1.2.2.2 a (by omega)
    have fe : ∀ o, o < 58 → hpI h1 (c + 66 + o) = hpI h (c + 66 + o) ∧ hpD h1 (c + 66 + o) = hpD h (c + 66 + o) := fun o ho => ⟨(fe2 _ (by omega)).1.trans (q0 _ (by omega)).1, (fe2 _ (by omega)).2.trans (q0 _ (by omega)).2.1⟩
    have G1' : Gr (fun a => a = c + 7 ∨ a = c + 66 + 23 ∨ hpS h ≤ a) (stR h0 (c + 7) p (some (hpS h))) h1 := gr_fx F1 (fun a z => by omega) (fun a z => by omega)
    have G1 : Gr (fun a => a = c + 7 ∨ a = c + 66 + 23) h h1 := ⟨by rw [F1.1, s2]; omega, fun a ha => by
      have u1 := G2.2 a ha
      have u2 := G1'.2 a (by rw [s2]; omega)
      exact ⟨u2.1.trans u1.1, fun n => ⟨(u2.2 (by omega)).1.trans (u1.2 n).1, (u2.2 (by omega)).2.1.trans (u1.2 n).2.1, (u2.2 (by omega)).2.2.trans (u1.2 n).2.2⟩⟩⟩
    have Gf : Gr (fun a => a = c + 7 ∨ a = c + 66 + 23) h (flg h1 c p) := by
      unfold flg; split
      · exact G1.trans (gr_stI (Or.inr rfl))
      · exact G1
    have xf : RX (flg h1 c p) (hpS h) (c + 1) := by
      unfold flg; split
      · refine ⟨fr_RB (fr_stI (P := fun a => a = c + 66 + 23) (Fr.refl _ _) rfl) RB1, fun i hi => ?_, fun r hr i hi => ?_⟩
        · rw [hpI_stI_ne (Or.inl (by omega)), hpD_stI]; exact RN1 i hi
        · rw [hpI_stI_ne (Or.inl (by omega)), hpD_stI]; exact SN1 r hr i hi
      · exact ⟨RB1, RN1, SN1⟩
    have I1 := ig_store (d := 4 + p) I Gf (by
      have : hpS (flg h1 c p) = hpS h1 := by unfold flg; split <;> rfl
      rw [this, F1.1, s2]) (by omega) (by omega) xf (by
      have : hpR (flg h1 c p) = hpR h1 := by unfold flg; split <;> rfl
      rw [this, F1.2.2.1 (c + 7) (by omega), up_stR, (q0 (c + 7) (by omega)).2.2, show 4 + p - 4 = p by omega]) (fun q hq => by
      unfold flg
      rw [show 4 + p - 4 = p by omega]
      by_cases e : q = p
      · rw [if_pos e, if_pos (by omega), e, hpI_stI_self]
      · rw [if_neg e]
        split
        · rw [hpI_stI_ne (Or.inr e), (fe 23 (by omega)).1]
        · rw [(fe 23 (by omega)).1])
    have A2 : astR h0 (some (c + 7)) 15 (nI p) (some (hpS h)) = some (stR h0 (c + 7) p (some (hpS h))) := by
      rw [astR_ok K70 (ni_in hp (by omega)) (by show hpK h0 (hpS h) = some (4, 0); exact RB0.1), ni_cl (by omega)]
    dsimp only
    rw [getR_ok K4, Option.bind_some, R4, r0, getD_ok K4, Option.bind_some, D4, (cr_h C).1, getR_ok K8, Option.bind_some, R8, e0, bnd_some, g80, Option.bind_some, A2, Option.bind_some, ck_ok RB2.1, Option.bind_some, ec, bnd_some]
    have Hf := I1.1.2.2.2.2.2.2.2
    refine ⟨hpS h, h1, _, _, _, rfl, I1, up1_self _ _ _, by unfold upB; rw [if_pos rfl], fun q hq => up1_ne (by omega), ?_, CR1 _ _ hn CS2, fe, ?_⟩
    · rw [rf1, stR_ne (by omega), (q0 _ (by omega)).2.2]; exact r0
    · exact ⟨fun k => by rw [F1.2.2.1 (c + 66) (by omega), stR_ne (by omega), (q0 _ (by omega)).2.2]; exact H.1 k, fun q hq => by rw [(G1.2 _ (by omega)).1]; exact H.2 q hq⟩
