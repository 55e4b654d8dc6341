/-! ===== laws and signals are built ===== -/
def MEl (h h' : Hp) (m l : Nat) : Prop := (∀ o, 1 ≤ o → o ≤ 3 → hpI h' (m + o) l = hpI h (m + o) l) ∧ (∀ i, i < 6 → hpI h' (m + 4) (6 * l + i) = hpI h (m + 4) (6 * l + i)) ∧ ∀ q, q < 48 → (∀ o, 5 ≤ o → o ≤ 8 → hpI h' (m + o) (48 * l + q) = hpI h (m + o) (48 * l + q)) ∧ hpD h' (m + 9) (48 * l + q) = hpD h (m + 9) (48 * l + q)
theorem mel_me {h h' : Hp} {m l : Nat} (e : ∀ o, 1 ≤ o → o ≤ 9 → hpI h' (m + o) = hpI h (m + o) ∧ hpD h' (m + o) = hpD h (m + o)) : MEl h h' m l := ⟨fun o h1 h2 => by rw [(e o h1 (by omega)).1], fun i _ => by rw [(e 4 (by omega) (by omega)).1], fun q _ => ⟨fun o h1 h2 => by rw [(e o (by omega) (by omega)).1], by rw [(e 9 (by omega) (by omega)).2]⟩⟩
theorem nd_mono {n ns ns' q : Nat} {kd a b c : Int32} (hs : ns ≤ ns') (x : NdOK n ns q kd a b c) : NdOK n ns' q kd a b c := by
  obtain ⟨k, k1, k2, k3, k4, k5, k6, k7, k8⟩ := x
  refine ⟨k, k1, k2, k3, k4, k5, k6, k7, fun z => ?_⟩
  obtain ⟨b', u1, u2⟩ := k8 z
  exact ⟨b', u1, by omega⟩
theorem mel_li {D : Nat → Prop} {h h' : Hp} {c l L n N ns ns' : Nat} (G : Gr D h h') (e : MEl h h' (c + 66) l) (hs : ns ≤ ns') (ha : L + 10 ≤ hpS h) (hD : ∀ a, L ≤ a → a < L + 10 → ¬ D a) (r4 : hpR h' (c + 4) l = hpR h (c + 4) l) (x : LI h c l L n N ns) : LI h' c l L n N ns' := by
  obtain ⟨l1, l2, l3, l4, l5, l6⟩ := x
  obtain ⟨e1, e2, e3⟩ := e
  obtain ⟨w1, w2, w3, w4, w5, w6, w7⟩ := l3
  obtain ⟨g1, g2, g3, g4, g5, g6⟩ := l4
  obtain ⟨⟨s1, s2⟩, E, s3, s4, s5⟩ := l6
  have q : ∀ o, o < 10 → hpI h' (L + o) = hpI h (L + o) ∧ hpD h' (L + o) = hpD h (L + o) := fun o ho => ⟨((G.2 _ (by omega)).2 (hD _ (by omega) (by omega))).1, ((G.2 _ (by omega)).2 (hD _ (by omega) (by omega))).2.1⟩
  have q0 : hpI h' L = hpI h L := (q 0 (by omega)).1
  refine ⟨by rw [r4]; exact l1, gr_lo G ha (hD _ (by omega) (by omega)) (hD _ (by omega) (by omega)) l2, ⟨w1, w2, w3, w4, by rw [e1 1 (by omega) (by omega)]; exact w5, by rw [e1 3 (by omega) (by omega)]; exact w6, fun t ht => ?_⟩, ⟨by rw [q0]; exact g1, by rw [q0]; exact g2, by rw [q0, e1 2 (by omega) (by omega)]; exact g3, by rw [q0]; exact g4, fun t ht => ?_, fun i hi => ?_⟩, gr_rn G (by omega) (hD _ (by omega) (by omega)) (hD _ (by omega) (by omega)) l5, ⟨fun i hi => ?_, fun t h1 h2 => ?_⟩, E, by rw [q0]; exact s3, s4, fun i hi t ht => ?_⟩
  · have et := e3 t (by omega)
    rw [et.1 5 (by omega) (by omega), et.1 6 (by omega) (by omega), et.1 7 (by omega) (by omega), et.1 8 (by omega) (by omega), et.2]
    exact ⟨nd_mono hs (w7 t ht).1, (w7 t ht).2⟩
  · have et := e3 t (by omega)
    rw [et.1 5 (by omega) (by omega), et.1 6 (by omega) (by omega), et.1 7 (by omega) (by omega), et.1 8 (by omega) (by omega), et.2, (q 1 (by omega)).1, (q 2 (by omega)).1, (q 3 (by omega)).1, (q 4 (by omega)).1, (q 5 (by omega)).2]
    exact g5 t ht
  · rw [(q 9 (by omega)).1, e2 i (by omega)]; exact g6 i hi
  · rw [e2 i (by omega)]; exact s1 i hi
  · rw [(e3 t h2).2]; exact s2 t h1 h2
  · rw [e2 i (by omega)]; exact s5 i hi t ht
theorem is_same {D : Nat → Prop} {h h' : Hp} {c ns : Nat} {τ : Nat → Nat} (G : Gr D h h') (hS : c + 124 ≤ hpS h) (e : ∀ o, 10 ≤ o → o ≤ 13 → hpI h' (c + 66 + o) = hpI h (c + 66 + o) ∧ hpD h' (c + 66 + o) = hpD h (c + 66 + o)) (r5 : hpR h' (c + 5) = hpR h (c + 5)) (bs : ∀ s, s < ns → ∀ S, hpR h (c + 5) s = some S → BK h c τ S 3 (8 + s)) (hD : ∀ s, s < ns → ∀ S, hpR h (c + 5) s = some S → ∀ a, S ≤ a → a < S + 3 → ¬ D a) (x : IS h c ns) : IS h' c ns := by
  obtain ⟨j1, j2, j3, j4⟩ := x
  refine ⟨?_, ?_, ⟨by rw [(G.2 _ (by omega)).1]; exact j3.1, fun s hs => ?_⟩, fun s h1 h2 => by rw [(e 11 (by omega) (by omega)).1]; exact j4 s h1 h2⟩
  · unfold SgOK; rw [(e 11 (by omega) (by omega)).1, (e 12 (by omega) (by omega)).2]; exact j1
  · unfold SvOK; rw [(e 13 (by omega) (by omega)).2]; exact j2
  · obtain ⟨S, p, s1, s2, s3, s4, s5, s6, s7, s8⟩ := j3.2 s hs
    have b := bs s hs S s1
    have b2 := b.2.1
    have d := hD s hs S s1
    have f : ∀ o, o < 3 → hpI h' (S + o) = hpI h (S + o) ∧ hpD h' (S + o) = hpD h (S + o) := fun o ho => ⟨((G.2 _ (by omega)).2 (d _ (by omega) (by omega))).1, ((G.2 _ (by omega)).2 (d _ (by omega) (by omega))).2.1⟩
    have f0 : hpI h' S = hpI h S := (f 0 (by omega)).1
    refine ⟨S, p, by rw [r5]; exact s1, gr_so G b2 (d _ (by omega) (by omega)) s2, s3, ?_⟩
    rw [f0, (f 1 (by omega)).2, (f 2 (by omega)).2, (e 10 (by omega) (by omega)).1, (e 11 (by omega) (by omega)).1, (e 12 (by omega) (by omega)).2, (e 13 (by omega) (by omega)).2]
    exact ⟨s4, s5, s6, s7, s8⟩
theorem VA.nodes {T B n N N' : Nat} {A : RecT} (v : VA T B n N A) (h : N ≤ N') : VA T B n N' A := by
  obtain ⟨a1, ⟨ne, n1, n2, n3⟩, a3⟩ := v
  refine ⟨a1, ⟨ne, n1, n2, fun j hj => ?_⟩, a3⟩
  obtain ⟨q, q1, q2⟩ := n3 j hj
  exact ⟨q, q1, by omega⟩
/-- the slots stay when laws or signals are built -/
theorem ig_bld {D : Nat → Prop} {b : Nat} {h h' : Hp} {c nl ns nr nl' ns' : Nat} {Lw nv nn Ob Lw' nv' nn' : Nat → Nat} {ex : Nat → Bool} {rl : Nat → Nat} {Rc : Nat → RecT} {τ τ' : Nat → Nat} (I : IG b h c 9 nl ns nr Lw nv nn Ob ex rl Rc τ) (G : Gr D h h') (hD : ∀ a, a < hpS h → D a → a = c ∨ a = c + 4 ∨ a = c + 5 ∨ (c + 66 ≤ a ∧ a < c + 66 + 14) ∨ (c + 124 ≤ a ∧ τ a < 16)) (ht : ∀ x, x < hpS h → τ' x = τ x) (r : hpR h' c = hpR h c) (rm : hpR h' (c + 66) = hpR h (c + 66)) (ic : IC h' c nl' ns' nr) (li : ∀ l, l < nl' → LI h' c l (Lw' l) (nv' l) (nn' l) ns') (un : ∀ l, nl' ≤ l → l < 8 → hpI h' (c + 66 + 3) l = 0 ∧ (∀ i, i < 6 → hpI h' (c + 66 + 4) (6 * l + i) = -1) ∧ ∀ q, q < 48 → hpD h' (c + 66 + 9) (48 * l + q) = 0) (is : IS h' c ns') (bl : ∀ l, l < nl' → BK h' c τ' (Lw' l) 10 l) (bs : ∀ s, s < ns' → ∀ S, hpR h' (c + 5) s = some S → BK h' c τ' S 3 (8 + s)) (old : nl ≤ nl' ∧ ∀ l, l < nl → Lw' l = Lw l ∧ nv' l = nv l ∧ nn l ≤ nn' l ∧ (SdOK h (c + 66) l (nv l) (nn l) → SdOK h' (c + 66) l (nv' l) (nn' l))) : INV b h' c := by
  obtain ⟨i1, i2, i3, i4, i5, i6, i7, i8, i9, i10, i11, i12, i13⟩ := I
  have hS := xo_S i1.1
  have q : ∀ a, a < hpS h → (a = c + 6 ∨ a = c + 7 ∨ (c + 66 + 14 ≤ a ∧ a < c + 124)) → hpI h' a = hpI h a ∧ hpD h' a = hpD h a ∧ hpR h' a = hpR h a := fun a ha z => (G.2 a ha).2 (fun d => by have := hD a ha d; omega)
  have e : ∀ o, 14 ≤ o → o < 44 → hpI h' (c + 66 + o) = hpI h (c + 66 + o) ∧ hpD h' (c + 66 + o) = hpD h (c + 66 + o) := fun o h1 h2 => ⟨(q _ (by omega) (by omega)).1, (q _ (by omega) (by omega)).2.1⟩
  have nD : ∀ s, s < 9 → ex s = true → Ob s + 41 ≤ hpS h ∧ ∀ a, Ob s ≤ a → a < Ob s + 41 → ¬ D a := fun s h1 h2 => by
    have b := i13 s h1 h2
    refine ⟨b.2.1, fun a u1 u2 d => ?_⟩
    have z := hD a (by have := b.2.1; omega) d
    have t := b.2.2 a u1 u2
    have := b.1
    omega
  refine ⟨nl', ns', nr, Lw', nv', nn', Ob, ex, rl, Rc, τ', gr_ia G (fun a h1 h2 h3 d => by have := hD a (by omega) d; omega) r rm i1, ic, li, un, is, fun s h1 h2 => gr_rx G (nD s h1 h2).1 (nD s h1 h2).2 (i6 s h1 h2), fun s h1 h2 h3 => ?_, fun s h1 => ?_, fun p hp => ?_, fun p hp => ?_, bl, bs, fun s h1 h2 => gr_bk G ht (i13 s h1 h2)⟩
  · obtain ⟨hl, t1, t2, t3, t4, t5, t6⟩ := i7 s h1 h2 h3
    obtain ⟨o1, o2, o3, o4⟩ := old.2 _ hl
    have n := nD s (by omega) h2
    refine ⟨Nat.lt_of_lt_of_le hl old.1, o4 t1, t2, ?_, ?_, (by rw [o2]; exact t5.nodes o3), ?_⟩
    · rw [o2]; exact rr_eq e t3
    · rw [o2]; exact gr_cr t4 G n.1 n.2
    · rw [o1, ((G.2 _ (by have := n.1; omega)).2 (n.2 _ (by omega) (by omega))).2.2]; exact t6
  · obtain ⟨k1, k2, k3⟩ := i8 s h1
    exact ⟨k1, fun z => by rw [(q (c + 6) (by omega) (by omega)).2.2]; exact k2 z, fun z => rr_eq e (k3 z)⟩
  · rw [(q (c + 7) (by omega) (by omega)).2.2]; exact i9 p hp
  · rw [(e 23 (by omega) (by omega)).1]; exact i10 p hp
