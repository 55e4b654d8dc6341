/-! ===== new events, runs, signals, laws ===== -/
def AN (T q t N j : Nat) (g g2 : Hp) : Prop := hpS g2 = q + 1 ∧ hpK g2 q = some (t, N) ∧ hpR g2 T = up1 (hpR g T) j (some q) ∧ Ux (fun a => a = T) q g g2 ∧ ∀ z, Zr z q g → Zr z (q + 1) g2
theorem an_mk {T q t N j : Nat} {g : Hp} (hT : T < q) (hs : hpS g = q) : AN T q t N j g (stR (alo g (t, N)) T j (some q)) := by
  refine ⟨by show hpS g + 1 = _; omega, ?_, ?_, ?_, fun z hz => ?_⟩
  · show hpK (alo g (t, N)) q = _; rw [hpK_alo, if_pos hs.symm]
  · rw [up_stR]; congr 1; funext i; rw [hpR_alo, if_neg (by omega)]
  · have a : Ux (fun a => a = T) (hpS g) g (alo g (t, N)) := ux_alo
    rw [hs] at a
    exact a.trans (ux_stR (q := q) rfl) (by omega)
  · have := zr_alo (kd := (t, N)) (q := z) (h := g) (by rw [hs]; exact hz)
    rw [hpS_alo, hs] at this
    exact this
theorem an_put {T q t N j c : Nat} {g : Hp} (hT : T < q) (hs : hpS g = q) (hk : hpK g T = some (c, 0)) : putR (alo g (t, N)) (some T) c j (some q) = some (stR (alo g (t, N)) T j (some q)) := putR_ok (by rw [hpK_alo, if_neg (by omega)]; exact hk)
theorem an_K {T q t N j c : Nat} {g g2 : Hp} (a : AN T q t N j g g2) (hT : T < q) (hk : hpK g T = some (c, 0)) : hpK g2 T = some (c, 0) := by rw [(a.2.2.2.1 T hT).1]; exact hk
theorem events_new (h : Hp) : ∃ h', f_X0_init (hpS h) (alo h (0, 0)) = some ((), h') ∧ hpS h' = hpS h + 8 ∧ hpK h' (hpS h) = some (0, 0) ∧ (∀ j, 1 ≤ j → j ≤ 5 → hpR h' (hpS h) j = some (hpS h + j)) ∧ hpR h' (hpS h) 7 = some (hpS h + 6) ∧ hpR h' (hpS h) 8 = some (hpS h + 7) ∧ (∀ j, 1 ≤ j → j ≤ 4 → hpK h' (hpS h + j) = some (11, 4)) ∧ hpK h' (hpS h + 5) = some (10, 4) ∧ hpK h' (hpS h + 6) = some (11, 64) ∧ hpK h' (hpS h + 7) = some (10, 64) ∧ Ux (fun _ => False) (hpS h) h h' ∧ ∀ q, Zr q (hpS h) h → Zr q (hpS h + 8) h' := by
  generalize eT : hpS h = T
  have K0 : hpK (alo h (0, 0)) T = some (0, 0) := by rw [hpK_alo, if_pos eT.symm]
  have s0 : hpS (alo h (0, 0)) = T + 1 := by rw [hpS_alo, eT]
  have U0 : Ux (fun a => a = T) T h (alo h (0, 0)) := by have a : Ux (fun a => a = T) (hpS h) h (alo h (0, 0)) := ux_alo; rw [eT] at a; exact a
  have R0 : hpR (alo h (0, 0)) T = fun _ => none := by funext i; rw [hpR_alo, if_pos eT.symm]
  have Z0 : ∀ q, Zr q T h → Zr q (T + 1) (alo h (0, 0)) := fun q z => by have := zr_alo (kd := (0, 0)) (q := q) (h := h) (by rw [eT]; exact z); rw [hpS_alo, eT] at this; exact this
  generalize alo h (0, 0) = g0 at K0 s0 U0 R0 Z0
  have a1 := an_mk (t := 11) (N := 4) (j := 1) (show T < T + 1 by omega) s0
  have p1 := an_put (t := 11) (N := 4) (j := 1) (show T < T + 1 by omega) s0 K0
  generalize stR (alo g0 (11, 4)) T 1 (some (T + 1)) = g1 at a1 p1
  have K1 := an_K a1 (by omega) K0
  have a2 := an_mk (t := 11) (N := 4) (j := 2) (show T < T + 2 by omega) a1.1
  have p2 := an_put (t := 11) (N := 4) (j := 2) (show T < T + 2 by omega) a1.1 K1
  generalize stR (alo g1 (11, 4)) T 2 (some (T + 2)) = g2 at a2 p2
  have K2 := an_K a2 (by omega) K1
  have a3 := an_mk (t := 11) (N := 4) (j := 3) (show T < T + 3 by omega) a2.1
  have p3 := an_put (t := 11) (N := 4) (j := 3) (show T < T + 3 by omega) a2.1 K2
  generalize stR (alo g2 (11, 4)) T 3 (some (T + 3)) = g3 at a3 p3
  have K3 := an_K a3 (by omega) K2
  have a4 := an_mk (t := 11) (N := 4) (j := 4) (show T < T + 4 by omega) a3.1
  have p4 := an_put (t := 11) (N := 4) (j := 4) (show T < T + 4 by omega) a3.1 K3
  generalize stR (alo g3 (11, 4)) T 4 (some (T + 4)) = g4 at a4 p4
  have K4 := an_K a4 (by omega) K3
  have a5 := an_mk (t := 10) (N := 4) (j := 5) (show T < T + 5 by omega) a4.1
  have p5 := an_put (t := 10) (N := 4) (j := 5) (show T < T + 5 by omega) a4.1 K4
  generalize stR (alo g4 (10, 4)) T 5 (some (T + 5)) = g5 at a5 p5
  have K5 := an_K a5 (by omega) K4
  have a6 := an_mk (t := 11) (N := 64) (j := 7) (show T < T + 6 by omega) a5.1
  have p6 := an_put (t := 11) (N := 64) (j := 7) (show T < T + 6 by omega) a5.1 K5
  generalize stR (alo g5 (11, 64)) T 7 (some (T + 6)) = g6 at a6 p6
  have K6 := an_K a6 (by omega) K5
  have a7 := an_mk (t := 10) (N := 64) (j := 8) (show T < T + 7 by omega) a6.1
  have p7 := an_put (t := 10) (N := 64) (j := 8) (show T < T + 7 by omega) a6.1 K6
  generalize stR (alo g6 (10, 64)) T 8 (some (T + 7)) = g7 at a7 p7
  have K7 := an_K a7 (by omega) K6
  have RT : hpR g7 T = up1 (up1 (up1 (up1 (up1 (up1 (up1 (fun _ => none) 1 (some (T + 1))) 2 (some (T + 2))) 3 (some (T + 3))) 4 (some (T + 4))) 5 (some (T + 5))) 7 (some (T + 6))) 8 (some (T + 7)) := by
    rw [a7.2.2.1, a6.2.2.1, a5.2.2.1, a4.2.2.1, a3.2.2.1, a2.2.2.1, a1.2.2.1, R0]
  have u6 := a7.2.2.2.1
  have u5 := a6.2.2.2.1.trans u6 (by omega)
  have u4 := a5.2.2.2.1.trans u5 (by omega)
  have u3 := a4.2.2.2.1.trans u4 (by omega)
  have u2 := a3.2.2.2.1.trans u3 (by omega)
  have u1 := a2.2.2.2.1.trans u2 (by omega)
  have u0 := a1.2.2.2.1.trans u1 (by omega)
  refine ⟨g7, ?_, a7.1, K7, fun j h1 h2 => ?_, by rw [RT]; rfl, by rw [RT]; rfl, fun j h1 h2 => ?_, by rw [(u5 (T + 5) (by omega)).1]; exact a5.2.1, by rw [(u6 (T + 6) (by omega)).1]; exact a6.2.1, a7.2.1, (U0.trans u0 (by omega)).mono (fun x hx z => by omega), fun q z => a7.2.2.2.2 q (a6.2.2.2.2 q (a5.2.2.2.2 q (a4.2.2.2.2 q (a3.2.2.2.2 q (a2.2.2.2.2 q (a1.2.2.2.2 q (Z0 q z)))))))⟩
  · unfold f_X0_init
    rw [show newa g0 11 4 = _ from newa_ok (N := 4) (by omega), bnd_some, s0, p1, Option.bind_some, show newa g1 11 4 = _ from newa_ok (N := 4) (by omega), bnd_some, a1.1, p2, Option.bind_some, show newa g2 11 4 = _ from newa_ok (N := 4) (by omega), bnd_some, a2.1, p3, Option.bind_some, show newa g3 11 4 = _ from newa_ok (N := 4) (by omega), bnd_some, a3.1, p4, Option.bind_some, show newa g4 10 4 = _ from newa_ok (N := 4) (by omega), bnd_some, a4.1, p5, Option.bind_some, show newa g5 11 64 = _ from newa_ok (N := 64) (by omega), bnd_some, a5.1, p6, Option.bind_some, show newa g6 10 64 = _ from newa_ok (N := 64) (by omega), bnd_some, a6.1, p7, Option.bind_some]
  · rw [RT]
    rcases (by omega : j = 1 ∨ j = 2 ∨ j = 3 ∨ j = 4 ∨ j = 5) with rfl | rfl | rfl | rfl | rfl <;> rfl
  · rcases (by omega : j = 1 ∨ j = 2 ∨ j = 3 ∨ j = 4) with rfl | rfl | rfl | rfl
    · rw [(u1 (T + 1) (by omega)).1]; exact a1.2.1
    · rw [(u2 (T + 2) (by omega)).1]; exact a2.2.1
    · rw [(u3 (T + 3) (by omega)).1]; exact a3.2.1
    · rw [(u4 (T + 4) (by omega)).1]; exact a4.2.1
theorem zr_stD {q e : Nat} {h : Hp} {b j : Nat} {v : UInt64} (hb : b < q) (z : Zr q e h) : Zr q e (stD h b j v) := fun a h1 h2 => ⟨(z a h1 h2).1, fun i => by rw [hpD_stD_ne (Or.inl (by omega))]; exact (z a h1 h2).2 i⟩
theorem zr_stI {q e : Nat} {h : Hp} {b j : Nat} {v : Int32} (hb : b < q) (z : Zr q e h) : Zr q e (stI h b j v) := fun a h1 h2 => ⟨fun i => by rw [hpI_stI_ne (Or.inl (by omega))]; exact (z a h1 h2).1 i, (z a h1 h2).2⟩
theorem zr_RN {q e a N : Nat} {h : Hp} (z : Zr q e h) (h1 : q ≤ a + 1) (h2 : a + 3 ≤ e) : RN h a N := fun i _ => by
  rw [(z (a + 1) (by omega) (by omega)).2 i, (z (a + 2) (by omega) (by omega)).1 i]
  exact ⟨nm_00, Or.inl rfl⟩
theorem zr_RV {q e a : Nat} {h : Hp} (z : Zr q e h) (h1 : q ≤ a + 1) (h2 : a + 3 ≤ e) (i : Nat) : RV h a i = 0 := by
  unfold RV
  rw [(z (a + 2) (by omega) (by omega)).1 i, if_pos rfl, (z (a + 1) (by omega) (by omega)).2 i]
/-- the record of a run without steps -/
def A0 (l : Int32) (t : UInt64) : RecT := (fun o => if o = 14 then fun _ => l else fun _ => 0, fun o => if o = 24 then fun _ => t else if o = 25 then fun _ => 4593671619917905920 else if o = 26 then fun _ => 4517110426252607488 else fun _ => 0)
/-- only the object's own numbers change -/
def Uo (T q : Nat) (h h' : Hp) : Prop := ∀ a, a < q → hpK h' a = hpK h a ∧ (a ≠ T → hpI h' a = hpI h a ∧ hpD h' a = hpD h a ∧ hpR h' a = hpR h a)
theorem Uo.trans {T q q' : Nat} {h h1 h2 : Hp} (a : Uo T q h h1) (b : Uo T q' h1 h2) (hq : q ≤ q') : Uo T q h h2 := fun x hx => by
  obtain ⟨a1, a2⟩ := a x hx
  obtain ⟨b1, b2⟩ := b x (by omega)
  exact ⟨b1.trans a1, fun n => ⟨(b2 n).1.trans (a2 n).1, (b2 n).2.1.trans (a2 n).2.1, (b2 n).2.2.trans (a2 n).2.2⟩⟩
theorem uo_ux {T q : Nat} {h h' : Hp} (U : Ux (fun a => a = T) q h h') : Uo T q h h' := fun a ha => ⟨(U a ha).1, fun n => ⟨(U a ha).2.1, (U a ha).2.2.1, (U a ha).2.2.2 n⟩⟩
theorem uo_F {T q : Nat} {h h' : Hp} (U : Ux (fun _ => False) q h h') : Uo T q h h' := fun a ha => ⟨(U a ha).1, fun n => ⟨(U a ha).2.1, (U a ha).2.2.1, (U a ha).2.2.2 (fun z => z)⟩⟩
theorem uo_stR {T q j : Nat} {h : Hp} {v : Option Nat} : Uo T q h (stR h T j v) := fun a _ => ⟨rfl, fun n => ⟨rfl, rfl, stR_ne n⟩⟩
theorem uo_stI {T q j : Nat} {h : Hp} {v : Int32} : Uo T q h (stI h T j v) := fun a _ => ⟨rfl, fun n => ⟨hpI_stI_row n, rfl, rfl⟩⟩
theorem uo_stD {T q j : Nat} {h : Hp} {v : UInt64} : Uo T q h (stD h T j v) := fun a _ => ⟨rfl, fun n => ⟨rfl, hpD_stD_row n, rfl⟩⟩
theorem rw_uo {T q a N : Nat} {h h' : Hp} (U : Uo T q h h') (ha : a + 3 ≤ q) (hX : a ≠ T) (r : RW h a N) : RW h' a N := by
  unfold RW
  rw [(U a (by omega)).1, ((U a (by omega)).2 hX).2.2, (U (a + 1) (by omega)).1, (U (a + 2) (by omega)).1]
  exact r
theorem run_new (h : Hp) {k : Nat} {L : Option Nat} {t : UInt64} : ∃ h', f_X4_init (hpS h) L t (some k) (alo h (4, 0)) = some ((), h') ∧ hpS h' = hpS h + 41 ∧ RB h' (hpS h) k ∧ RN h' (hpS h + 1) 6 ∧ SN h' (hpS h + 12) ∧ hpR h' (hpS h) 0 = L ∧ (∀ l n, CR h' (hpS h) n (A0 l t)) ∧ Ux (fun _ => False) (hpS h) h h' := by
  generalize eT : hpS h = r
  generalize e0 : stD (stR (alo h (4, 0)) r 0 L) r 1 t = g0
  have K0 : hpK g0 r = some (4, 0) := by rw [← e0]; show hpK (alo h (4, 0)) r = _; rw [hpK_alo, if_pos eT.symm]
  have s0 : hpS g0 = r + 1 := by rw [← e0]; show hpS h + 1 = _; omega
  have U0 : Ux (fun a => a = r) r h (alo h (4, 0)) := by have a : Ux (fun a => a = r) (hpS h) h (alo h (4, 0)) := ux_alo; rw [eT] at a; exact a
  have O0 : Uo r r h g0 := by rw [← e0]; exact (uo_ux U0).trans ((uo_stR (q := r)).trans (uo_stD (q := r)) (by omega)) (by omega)
  have R0 : hpR g0 r = up1 (fun _ => none) 0 L := by rw [← e0]; show hpR (stR (alo h (4, 0)) r 0 L) r = _; rw [up_stR]; congr 1; funext i; rw [hpR_alo, if_pos eT.symm]
  have D0 : ∀ j, hpD g0 r j = if j = 1 then t else 0 := fun j => by
    rw [← e0, hpD_stD, if_pos rfl]
    by_cases e : j = 1
    · rw [if_pos e, if_pos e]
    · rw [if_neg e, if_neg e]; show hpD (alo h (4, 0)) r j = 0; rw [hpD_alo, if_pos eT.symm]
  have I0 : ∀ j, hpI g0 r j = 0 := fun j => by rw [← e0]; show hpI (alo h (4, 0)) r j = 0; rw [hpI_alo, if_pos eT.symm]
  obtain ⟨g1, f1, s1, w1, u1, -, z1⟩ := row_new g0 (N := 6) (by omega)
  rw [s0] at f1 s1 w1 u1 z1
  have Z1 := z1 (r + 1) (fun a h1 h2 => by omega)
  have k1 : hpK g1 r = some (4, 0) := by rw [(u1 r (by omega)).1]; exact K0
  have R1 : hpR g1 r = hpR g0 r := (u1 r (by omega)).2.2.2 (fun z => z)
  have I1 : hpI g1 r = hpI g0 r := (u1 r (by omega)).2.1
  have D1 : hpD g1 r = hpD g0 r := (u1 r (by omega)).2.2.1
  generalize e2 : stD (stD (stD (stI (stR g1 r 2 (some (r + 1))) r 3 0) r 4 4593671619917905920) r 5 4517110426252607488) r 6 FP.dconst0 = g2
  have K2 : hpK g2 r = some (4, 0) := by rw [← e2]; exact k1
  have s2 : hpS g2 = r + 4 := by rw [← e2]; exact s1
  have O2 : Uo r (r + 4) g1 g2 := by rw [← e2]; exact ((((uo_stR (q := r + 4)).trans (uo_stI (q := r + 4)) (by omega)).trans (uo_stD (q := r + 4)) (by omega)).trans (uo_stD (q := r + 4)) (by omega)).trans (uo_stD (q := r + 4)) (by omega)
  have R2 : hpR g2 r = up1 (up1 (fun _ => none) 0 L) 2 (some (r + 1)) := by rw [← e2]; show hpR (stR g1 r 2 (some (r + 1))) r = _; rw [up_stR, R1, R0]
  have I2 : ∀ j, hpI g2 r j = 0 := fun j => by
    rw [← e2]; show hpI (stI (stR g1 r 2 (some (r + 1))) r 3 0) r j = 0
    rw [hpI_stI, if_pos rfl]
    by_cases e : j = 3
    · rw [if_pos e]
    · rw [if_neg e]; show hpI g1 r j = 0; rw [I1]; exact I0 j
  have D2 : hpD g2 r 1 = t ∧ hpD g2 r 4 = 4593671619917905920 ∧ hpD g2 r 5 = 4517110426252607488 ∧ hpD g2 r 6 = 0 := by
    rw [← e2]
    refine ⟨?_, ?_, ?_, by rw [hpD_stD_self]; rfl⟩
    · rw [hpD_stD_ne (Or.inr (by omega)), hpD_stD_ne (Or.inr (by omega)), hpD_stD_ne (Or.inr (by omega))]
      show hpD g1 r 1 = t; rw [D1, D0, if_pos rfl]
    · rw [hpD_stD_ne (Or.inr (by omega)), hpD_stD_ne (Or.inr (by omega)), hpD_stD_self]
    · rw [hpD_stD_ne (Or.inr (by omega)), hpD_stD_self]
  have w2 : RW g2 (r + 1) 6 := rw_uo O2 (by omega) (by omega) w1
  have Z2 : Zr (r + 1) (r + 4) g2 := by
    rw [← e2]
    exact zr_stD (by omega) (zr_stD (by omega) (zr_stD (by omega) (zr_stI (by omega) Z1)))
  obtain ⟨g3, f3, s3, k3, v3, v37, v38, m3, m35, m36, m37, u3, z3⟩ := events_new g2
  rw [s2] at f3 s3 k3 v3 v37 v38 m3 m35 m36 m37 u3 z3
  have k3r : hpK g3 r = some (4, 0) := by rw [(u3 r (by omega)).1]; exact K2
  generalize e4 : stR g3 r 10 (some (r + 4)) = g4
  have K4 : hpK g4 r = some (4, 0) := by rw [← e4]; exact k3r
  have s4 : hpS g4 = r + 12 := by rw [← e4]; exact s3
  have O4 : Uo r (r + 12) g3 g4 := by rw [← e4]; exact uo_stR
  have R4 : hpR g4 r = up1 (hpR g2 r) 10 (some (r + 4)) := by rw [← e4, up_stR, (u3 r (by omega)).2.2.2 (fun z => z)]
  have Z4 : Zr (r + 1) (r + 12) g4 := by rw [← e4]; exact zr_stR (z3 (r + 1) Z2)
  obtain ⟨g5, f5, s5, S5, u5, z5⟩ := step_new g4 (k := k)
  rw [s4] at f5 s5 S5 u5 z5
  have k5 : hpK g5 r = some (4, 0) := by rw [(u5 r (by omega)).1]; exact K4
  generalize e6 : stR g5 r 11 (some (r + 12)) = g6
  have O6 : Uo r (r + 41) g5 g6 := by rw [← e6]; exact uo_stR
  have K6 : hpK g6 r = some (4, 0) := by rw [← e6]; exact k5
  have R6 : hpR g6 r = up1 (up1 (up1 (up1 (fun _ => none) 0 L) 2 (some (r + 1))) 10 (some (r + 4))) 11 (some (r + 12)) := by
    rw [← e6, up_stR, (u5 r (by omega)).2.2.2 (fun z => z), R4, R2]
  have Z6 : Zr (r + 1) (r + 41) g6 := by rw [← e6]; exact zr_stR (z5 (r + 1) (by omega) Z4)
  have O36 : Uo r (r + 12) g3 g6 := (O4.trans ((uo_F (T := r) u5).trans O6 (by omega)) (by omega))
  have O26 : Uo r (r + 4) g2 g6 := (uo_F (T := r) u3).trans O36 (by omega)
  have O06 : Uo r (r + 1) g0 g6 := (uo_F (T := r) u1).trans (O2.trans O26 (by omega)) (by omega)
  have I6 : ∀ j, hpI g6 r j = 0 := fun j => by
    have a1 : hpI g6 r = hpI g5 r := by rw [← e6]; rfl
    have a2 : hpI g4 r = hpI g3 r := by rw [← e4]; rfl
    rw [a1, (u5 r (by omega)).2.1, a2, (u3 r (by omega)).2.1]; exact I2 j
  have D6 : hpD g6 r = hpD g2 r := by
    have a1 : hpD g6 r = hpD g5 r := by rw [← e6]; rfl
    have a2 : hpD g4 r = hpD g3 r := by rw [← e4]; rfl
    rw [a1, (u5 r (by omega)).2.2.1, a2, (u3 r (by omega)).2.2.1]
  have S6 : S0 g6 (r + 12) k := by rw [← e6]; exact s0_stR S5 (by rw [k5]; decide) (by rw [k5]; decide) (fun e => by omega)
  refine ⟨g6, ?_, by rw [← e6]; exact s5, ⟨K6, by rw [R6]; rfl, by rw [R6]; rfl, by rw [R6]; rfl, rw_uo O26 (by omega) (by omega) w2, by rw [(O36 (r + 4) (by omega)).1]; exact k3, fun j h1 h2 => by rw [((O36 (r + 4) (by omega)).2 (by omega)).2.2]; exact v3 j h1 h2, by rw [((O36 (r + 4) (by omega)).2 (by omega)).2.2]; exact v37, by rw [((O36 (r + 4) (by omega)).2 (by omega)).2.2]; exact v38, fun j h1 h2 => ?_, by rw [(O36 (r + 9) (by omega)).1]; exact m35, by rw [(O36 (r + 10) (by omega)).1]; exact m36, by rw [(O36 (r + 11) (by omega)).1]; exact m37, S6⟩, zr_RN Z6 (by omega) (by omega), fun q hq => zr_RN Z6 (by have := isr_le hq; omega) (by have := isr_le hq; omega), by rw [R6]; rfl, fun l n => ?_, ?_⟩
  · unfold f_X4_init
    have ka : hpK (alo h (4, 0)) r = some (4, 0) := by rw [hpK_alo, if_pos eT.symm]
    rw [putR_ok ka, Option.bind_some, putD_ok (show hpK (stR (alo h (4, 0)) r 0 L) r = some (4, 0) from ka), Option.bind_some, e0]
    show bnd (f_X3_init (hpS g0) 6 (alo g0 (3, 0))) _ = _
    rw [s0, show f_X3_init (r + 1) 6 (alo g0 (3, 0)) = _ from f1, bnd_some, putR_ok k1, Option.bind_some, putI_ok (show hpK (stR g1 r 2 (some (r + 1))) r = some (4, 0) from k1), Option.bind_some, putD_ok (show hpK (stI (stR g1 r 2 (some (r + 1))) r 3 0) r = some (4, 0) from k1), Option.bind_some, putD_ok (show hpK (stD (stI (stR g1 r 2 (some (r + 1))) r 3 0) r 4 4593671619917905920) r = some (4, 0) from k1), Option.bind_some, putD_ok (show hpK (stD (stD (stI (stR g1 r 2 (some (r + 1))) r 3 0) r 4 4593671619917905920) r 5 4517110426252607488) r = some (4, 0) from k1), Option.bind_some, e2]
    show bnd (f_X0_init (hpS g2) (alo g2 (0, 0))) _ = _
    rw [s2, f3, bnd_some, putR_ok k3r, Option.bind_some, e4]
    show bnd (f_X6_init (hpS g4) (some k) (alo g4 (6, 0))) _ = _
    rw [s4, f5, bnd_some, putR_ok k5, Option.bind_some, e6]
  · rw [(O36 (r + j) (by omega)).1, show r + j = r + 4 + (j - 4) by omega]; exact m3 (j - 4) (by omega) (by omega)
  · refine ⟨by rw [D6]; exact D2.1, I6 3, by rw [D6]; exact D2.2.1, by rw [D6]; exact D2.2.2.1, by rw [D6]; exact D2.2.2.2, I6 7, I6 8, I6 9, fun i _ => zr_RV Z6 (by omega) (by omega) i, (Z6 (r + 4) (by omega) (by omega)).1 0, (Z6 (r + 4) (by omega) (by omega)).1 6, fun j _ => ⟨(Z6 (r + 5) (by omega) (by omega)).1 j, (Z6 (r + 6) (by omega) (by omega)).1 j, (Z6 (r + 7) (by omega) (by omega)).1 j, (Z6 (r + 8) (by omega) (by omega)).1 j⟩, fun j _ => ⟨(Z6 (r + 10) (by omega) (by omega)).1 j, (Z6 (r + 11) (by omega) (by omega)).2 j⟩, (Z6 (r + 12) (by omega) (by omega)).2 12, (Z6 (r + 12) (by omega) (by omega)).1 13, (Z6 (r + 12) (by omega) (by omega)).2 4, fun st => absurd st (by show ¬ (0 : Int32) = 1; decide)⟩
  · intro a ha
    obtain ⟨b1, b2⟩ := (O0.trans O06 (by omega)) a ha
    obtain ⟨b3, b4, b5⟩ := b2 (by omega)
    exact ⟨b1, b3, b4, fun _ => b5⟩
