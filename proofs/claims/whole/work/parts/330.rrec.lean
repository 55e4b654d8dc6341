/-! ===== a run as a record: ints and doubles by the reference's places ===== -/
abbrev RecT : Type := (Nat → Nat → Int32) × (Nat → Nat → UInt64)
def uI (A : RecT) (k : Nat) (f : Nat → Int32) : RecT := (fun q => if q = k then f else A.1 q, A.2)
def uD (A : RecT) (k : Nat) (f : Nat → UInt64) : RecT := (A.1, fun q => if q = k then f else A.2 q)
theorem uI_1 (A : RecT) (k : Nat) (f : Nat → Int32) (q : Nat) : (uI A k f).1 q = if q = k then f else A.1 q := rfl
theorem uI_2 (A : RecT) (k : Nat) (f : Nat → Int32) : (uI A k f).2 = A.2 := rfl
theorem uD_1 (A : RecT) (k : Nat) (f : Nat → UInt64) : (uD A k f).1 = A.1 := rfl
theorem uD_2 (A : RecT) (k : Nat) (f : Nat → UInt64) (q : Nat) : (uD A k f).2 q = if q = k then f else A.2 q := rfl
/-- what the slot s of the reference tells of a run of n variables -/
def RR (h : Hp) (m s n : Nat) (A : RecT) : Prop :=
  (∀ o, 14 ≤ o → o ≤ 22 → hpI h (m + o) s = A.1 o 0) ∧ hpI h (m + 36) s = A.1 36 0 ∧
  (∀ o, 24 ≤ o → o ≤ 28 → hpD h (m + o) s = A.2 o 0) ∧ hpD h (m + 37) s = A.2 37 0 ∧ hpD h (m + 38) s = A.2 38 0 ∧
  (∀ i, i < n → hpD h (m + 29) (6 * s + i) = A.2 29 i) ∧
  (∀ o, 30 ≤ o → o ≤ 33 → ∀ j, j < 4 → hpI h (m + o) (4 * s + j) = A.1 o j) ∧
  (∀ j, j < 64 → hpI h (m + 34) (64 * s + j) = A.1 34 j ∧ hpD h (m + 35) (64 * s + j) = A.2 35 j) ∧
  (A.1 22 0 = 1 → (∀ o, 39 ≤ o → o ≤ 42 → ∀ i, i < n → hpD h (m + o) (6 * s + i) = A.2 o i) ∧
    (∀ j, j < sgN (tc (A.1 36 0)) → ∀ i, i < n → hpD h (m + 43) (5 * (6 * s + i) + j) = A.2 (100 + j) i) ∧
    (tc (A.1 36 0) = 4 → ∀ i, i < n → hpD h (m + 43) (5 * (6 * s + i) + 4) = A.2 104 i))
/-- laws and signals are the same -/
def LE (h0 h : Hp) (m : Nat) : Prop := hpK h = hpK h0 ∧ hpR h = hpR h0 ∧ ∀ o, 1 ≤ o → o < 14 → hpI h (m + o) = hpI h0 (m + o) ∧ hpD h (m + o) = hpD h0 (m + o)
theorem LE.refl (h : Hp) (m : Nat) : LE h h m := ⟨rfl, rfl, fun _ _ _ => ⟨rfl, rfl⟩⟩
theorem LE.trans {h0 h1 h2 : Hp} {m : Nat} (a : LE h0 h1 m) (b : LE h1 h2 m) : LE h0 h2 m := ⟨b.1.trans a.1, b.2.1.trans a.2.1, fun o h1 h2 => ⟨(b.2.2 o h1 h2).1.trans (a.2.2 o h1 h2).1, (b.2.2 o h1 h2).2.trans (a.2.2 o h1 h2).2⟩⟩
theorem Scr.le {h0 h : Hp} {m : Nat} (S : Scr h0 h m) : LE h0 h m := ⟨S.2.1, S.2.2.1, fun o h1 h2 => ⟨S.2.2.2.1 _ (by omega), S.2.2.2.2.2 _ (by omega)⟩⟩
theorem le_RO {h0 h : Hp} {m : Nat} (S : LE h0 h m) (H : RO h0 m) : RO h m := ⟨fun k => by rw [S.2.1]; exact H.1 k, fun q hq => by rw [S.1]; exact H.2 q hq⟩
theorem le_Lw {h0 h : Hp} {m l n ns N : Nat} (S : LE h0 h m) (X : LwOK h0 m l n ns N) : LwOK h m l n ns N := by
  obtain ⟨l1, l2, l3, l4, l5, l6, l7⟩ := X
  refine ⟨l1, l2, l3, l4, by rw [(S.2.2 1 (by omega) (by omega)).1]; exact l5, by rw [(S.2.2 3 (by omega) (by omega)).1]; exact l6, ?_⟩
  intro q hq
  rw [(S.2.2 5 (by omega) (by omega)).1, (S.2.2 6 (by omega) (by omega)).1, (S.2.2 7 (by omega) (by omega)).1, (S.2.2 8 (by omega) (by omega)).1, (S.2.2 9 (by omega) (by omega)).2]
  exact l7 q hq
theorem le_Sg {h0 h : Hp} {m ns : Nat} (S : LE h0 h m) (s1 : SgOK h0 m ns) : SgOK h m ns := by
  refine ⟨s1.1, fun s hs => ?_⟩
  rw [(S.2.2 11 (by omega) (by omega)).1, (S.2.2 12 (by omega) (by omega)).2]
  exact s1.2 s hs
theorem le_Sv {h0 h : Hp} {m : Nat} (S : LE h0 h m) (s2 : SvOK h0 m) : SvOK h m := by
  intro j
  rw [(S.2.2 13 (by omega) (by omega)).2]
  exact s2 j
theorem le_SX {h0 h : Hp} {m l n ns N : Nat} (S : LE h0 h m) (X : SX h0 m l n ns N) : SX h m l n ns N := by
  obtain ⟨H, L, s1, s2, s3⟩ := X
  refine ⟨le_RO S H, le_Lw S L, le_Sg S s1, le_Sv S s2, ?_⟩
  intro i hi2
  rw [(S.2.2 4 (by omega) (by omega)).1]
  exact s3 i hi2
theorem le_wR {h0 h : Hp} {m l : Nat} (S : LE h0 h m) (t : UInt64) (x : Nat → UInt64) : wR h m l t x = wR h0 m l t x := by
  funext q f
  have es : sgR h m = sgR h0 m := by
    funext s v
    unfold sgR
    rw [(S.2.2 11 (by omega) (by omega)).1, (S.2.2 10 (by omega) (by omega)).1, (S.2.2 12 (by omega) (by omega)).2, (S.2.2 13 (by omega) (by omega)).2]
  unfold wR
  rw [es, (S.2.2 5 (by omega) (by omega)).1, (S.2.2 6 (by omega) (by omega)).1, (S.2.2 7 (by omega) (by omega)).1, (S.2.2 8 (by omega) (by omega)).1, (S.2.2 9 (by omega) (by omega)).2]
theorem le_nvR {h0 h : Hp} {m l N : Nat} (S : LE h0 h m) : nvR h m l N = nvR h0 m l N := by
  funext t x
  show nvS (wR h m l t x) N _ = nvS (wR h0 m l t x) N _
  rw [le_wR S]
theorem le_fR {h0 h : Hp} {m l N : Nat} (S : LE h0 h m) : fR h m l N = fR h0 m l N := by
  funext t x i
  show nvR h m l N t x (tc (hpI h (m + 4) (6 * l + i))) = nvR h0 m l N t x (tc (hpI h0 (m + 4) (6 * l + i)))
  rw [(S.2.2 4 (by omega) (by omega)).1, le_nvR S]
theorem le_nar {h0 h : Hp} {m l : Nat} (S : LE h0 h m) : hpI h (m + 2) l = hpI h0 (m + 2) l := by rw [(S.2.2 2 (by omega) (by omega)).1]
theorem le_var {h0 h : Hp} {m l : Nat} (S : LE h0 h m) : hpI h (m + 1) l = hpI h0 (m + 1) l := by rw [(S.2.2 1 (by omega) (by omega)).1]
/-- only the slot s and the workplaces of the reference may differ -/
def Fs (h0 h : Hp) (m s : Nat) : Prop := hpS h = hpS h0 ∧ LE h0 h m ∧ (∀ a, (a < m ∨ m + 57 < a) → hpI h a = hpI h0 a ∧ hpD h a = hpD h0 a) ∧ (∀ k, k ≠ 60 → k ≠ 61 → hpI h m k = hpI h0 m k) ∧ hpI h (m + 23) = hpI h0 (m + 23) ∧ ∀ s', s' ≠ s → ∀ n A, n ≤ 6 → RR h0 m s' n A → RR h m s' n A
theorem Fs.refl (h : Hp) (m s : Nat) : Fs h h m s := ⟨rfl, LE.refl h m, fun _ _ => ⟨rfl, rfl⟩, fun _ _ _ => rfl, rfl, fun _ _ _ _ _ r => r⟩
theorem Fs.trans {h0 h1 h2 : Hp} {m s : Nat} (a : Fs h0 h1 m s) (b : Fs h1 h2 m s) : Fs h0 h2 m s :=
  ⟨b.1.trans a.1, a.2.1.trans b.2.1, fun q hq => ⟨(b.2.2.1 q hq).1.trans (a.2.2.1 q hq).1, (b.2.2.1 q hq).2.trans (a.2.2.1 q hq).2⟩, fun k h1 h2 => (b.2.2.2.1 k h1 h2).trans (a.2.2.2.1 k h1 h2), b.2.2.2.2.1.trans a.2.2.2.2.1, fun s' hs n A hn r => b.2.2.2.2.2 s' hs n A hn (a.2.2.2.2.2 s' hs n A hn r)⟩
theorem Scr.rr {h0 h : Hp} {m s n : Nat} {A : RecT} (S : Scr h0 h m) (r : RR h0 m s n A) : RR h m s n A := by
  have hi : ∀ o, 0 < o → hpI h (m + o) = hpI h0 (m + o) := fun o ho => S.2.2.2.1 _ (by omega)
  have hd : ∀ o, o < 44 → hpD h (m + o) = hpD h0 (m + o) := fun o ho => S.2.2.2.2.2 _ (by omega)
  obtain ⟨r1, r2, r3, r4, r5, r6, r7, r8, r9⟩ := r
  refine ⟨fun o h1 h2 => by rw [hi o (by omega)]; exact r1 o h1 h2, by rw [hi 36 (by omega)]; exact r2, fun o h1 h2 => by rw [hd o (by omega)]; exact r3 o h1 h2, by rw [hd 37 (by omega)]; exact r4, by rw [hd 38 (by omega)]; exact r5, fun i hi => by rw [hd 29 (by omega)]; exact r6 i hi, fun o h1 h2 j hj => by rw [hi o (by omega)]; exact r7 o h1 h2 j hj, fun j hj => by rw [hi 34 (by omega), hd 35 (by omega)]; exact r8 j hj, fun q => ?_⟩
  obtain ⟨q1, q2, q3⟩ := r9 q
  exact ⟨fun o h1 h2 i hi => by rw [hd o (by omega)]; exact q1 o h1 h2 i hi, fun j hj i hi => by rw [hd 43 (by omega)]; exact q2 j hj i hi, fun z i hi => by rw [hd 43 (by omega)]; exact q3 z i hi⟩
theorem Scr.fs {h0 h : Hp} {m : Nat} (S : Scr h0 h m) (s : Nat) : Fs h0 h m s := ⟨S.1, S.le, fun a ha => ⟨S.2.2.2.1 a (by omega), S.2.2.2.2.2 a (by omega)⟩, S.2.2.2.2.1, S.2.2.2.1 _ (by omega), fun s' _ n A _ r => S.rr r⟩
/-- a row of a workplace -/
theorem rr_wk {h : Hp} {m s n b : Nat} {A : RecT} {f : Nat → UInt64} (hb : m + 44 ≤ b) (r : RR h m s n A) : RR (rwD h b f) m s n A := by
  have hd : ∀ o, o < 44 → hpD (rwD h b f) (m + o) = hpD h (m + o) := fun o ho => hpD_rwD_ne (by omega)
  obtain ⟨r1, r2, r3, r4, r5, r6, r7, r8, r9⟩ := r
  refine ⟨r1, r2, fun o h1 h2 => by rw [hd o (by omega)]; exact r3 o h1 h2, by rw [hd 37 (by omega)]; exact r4, by rw [hd 38 (by omega)]; exact r5, fun i hi => by rw [hd 29 (by omega)]; exact r6 i hi, r7, fun j hj => ⟨(r8 j hj).1, by rw [hd 35 (by omega)]; exact (r8 j hj).2⟩, fun q => ?_⟩
  obtain ⟨q1, q2, q3⟩ := r9 q
  exact ⟨fun o h1 h2 i hi => by rw [hd o (by omega)]; exact q1 o h1 h2 i hi, fun j hj i hi => by rw [hd 43 (by omega)]; exact q2 j hj i hi, fun z i hi => by rw [hd 43 (by omega)]; exact q3 z i hi⟩
theorem fs_wk {h : Hp} {m b : Nat} (s : Nat) (f : Nat → UInt64) (hb : m + 44 ≤ b ∧ b ≤ m + 57) : Fs h (rwD h b f) m s :=
  ⟨rfl, ⟨rfl, rfl, fun o h1 h2 => ⟨rfl, hpD_rwD_ne (by omega)⟩⟩, fun a ha => ⟨rfl, hpD_rwD_ne (by omega)⟩, fun _ _ _ => rfl, rfl, fun s' _ n A _ r => rr_wk hb.1 r⟩
/-- comes -/
theorem rr_co {h : Hp} {m s n j : Nat} {A : RecT} {v : Int32} (r : RR h m s n A) : RR (stI h (m + 57) j v) m s n A := by
  have hi : ∀ o, o < 44 → hpI (stI h (m + 57) j v) (m + o) = hpI h (m + o) := fun o ho => by funext k; rw [hpI_stI, if_neg (by omega)]
  obtain ⟨r1, r2, r3, r4, r5, r6, r7, r8, r9⟩ := r
  exact ⟨fun o h1 h2 => by rw [hi o (by omega)]; exact r1 o h1 h2, by rw [hi 36 (by omega)]; exact r2, r3, r4, r5, r6, fun o h1 h2 j hj => by rw [hi o (by omega)]; exact r7 o h1 h2 j hj, fun j hj => by rw [hi 34 (by omega)]; exact r8 j hj, r9⟩
theorem fs_co {h : Hp} {m : Nat} (s j : Nat) (v : Int32) : Fs h (stI h (m + 57) j v) m s :=
  ⟨rfl, ⟨rfl, rfl, fun o h1 h2 => ⟨by funext k; rw [hpI_stI, if_neg (by omega)], rfl⟩⟩, fun a ha => ⟨by funext k; rw [hpI_stI, if_neg (by omega)], rfl⟩, fun k _ _ => by rw [hpI_stI, if_neg (by omega)], by funext k; rw [hpI_stI, if_neg (by omega)], fun s' _ n A _ r => rr_co r⟩
/-- an int of the slot s -/
theorem fs_stI {h : Hp} {m s o k : Nat} (v : Int32) (ho : (14 ≤ o ∧ o ≤ 22 ∧ k = s) ∨ (o = 36 ∧ k = s) ∨ (30 ≤ o ∧ o ≤ 33 ∧ 4 * s ≤ k ∧ k < 4 * s + 4) ∨ (o = 34 ∧ 64 * s ≤ k ∧ k < 64 * s + 64)) : Fs h (stI h (m + o) k v) m s := by
  have h1 : ∀ a, a ≠ m + o → hpI (stI h (m + o) k v) a = hpI h a := fun a ha => by funext j; rw [hpI_stI, if_neg ha]
  refine ⟨rfl, ⟨rfl, rfl, fun q h2 h3 => ⟨h1 _ (by omega), rfl⟩⟩, fun a ha => ⟨h1 _ (by omega), rfl⟩, fun j _ _ => by rw [h1 _ (by omega)], h1 _ (by omega), fun s' hs n A hn r => ?_⟩
  have h2 : ∀ q j, (q = o → j ≠ k) → hpI (stI h (m + o) k v) (m + q) j = hpI h (m + q) j := fun q j hj => by
    rw [hpI_stI]
    by_cases e : m + q = m + o
    · rw [if_pos e, if_neg (hj (by omega))]
    · rw [if_neg e]
  obtain ⟨r1, r2, r3, r4, r5, r6, r7, r8, r9⟩ := r
  exact ⟨fun q a b => by rw [h2 q _ (fun z => by omega)]; exact r1 q a b, by rw [h2 36 _ (fun z => by omega)]; exact r2, r3, r4, r5, r6, fun q a b j hj => by rw [h2 q _ (fun z => by omega)]; exact r7 q a b j hj, fun j hj => by rw [h2 34 _ (fun z => by omega)]; exact r8 j hj, r9⟩
/-- a double of the slot s -/
theorem fs_stD {h : Hp} {m s o k : Nat} (v : UInt64) (ho : (24 ≤ o ∧ o ≤ 28 ∧ k = s) ∨ (37 ≤ o ∧ o ≤ 38 ∧ k = s) ∨ ((o = 29 ∨ (39 ≤ o ∧ o ≤ 42)) ∧ 6 * s ≤ k ∧ k < 6 * s + 6) ∨ (o = 35 ∧ 64 * s ≤ k ∧ k < 64 * s + 64) ∨ (o = 43 ∧ 30 * s ≤ k ∧ k < 30 * s + 30)) : Fs h (stD h (m + o) k v) m s := by
  have h1 : ∀ a, a ≠ m + o → hpD (stD h (m + o) k v) a = hpD h a := fun a ha => by funext j; rw [hpD_stD, if_neg ha]
  refine ⟨rfl, ⟨rfl, rfl, fun q h2 h3 => ⟨rfl, h1 _ (by omega)⟩⟩, fun a ha => ⟨rfl, h1 _ (by omega)⟩, fun j _ _ => rfl, rfl, fun s' hs n A hn r => ?_⟩
  have h2 : ∀ q j, (q = o → j ≠ k) → hpD (stD h (m + o) k v) (m + q) j = hpD h (m + q) j := fun q j hj => by
    rw [hpD_stD]
    by_cases e : m + q = m + o
    · rw [if_pos e, if_neg (hj (by omega))]
    · rw [if_neg e]
  obtain ⟨r1, r2, r3, r4, r5, r6, r7, r8, r9⟩ := r
  refine ⟨r1, r2, fun q a b => by rw [h2 q _ (fun z => by omega)]; exact r3 q a b, by rw [h2 37 _ (fun z => by omega)]; exact r4, by rw [h2 38 _ (fun z => by omega)]; exact r5, fun i hi => by rw [h2 29 _ (fun z => by omega)]; exact r6 i hi, r7, fun j hj => ⟨(r8 j hj).1, by rw [h2 35 _ (fun z => by omega)]; exact (r8 j hj).2⟩, fun q => ?_⟩
  obtain ⟨q1, q2, q3⟩ := r9 q
  refine ⟨fun q a b i hi => by rw [h2 q _ (fun z => by omega)]; exact q1 q a b i hi, fun j hj i hi => ?_, fun z i hi => ?_⟩
  · have j5 : j < 5 := by
      have : sgN (tc (A.1 36 0)) ≤ 4 := by unfold sgN; split <;> omega
      omega
    rw [h2 43 _ (fun z => by omega)]; exact q2 j hj i hi
  · rw [h2 43 _ (fun z => by omega)]; exact q3 z i hi
