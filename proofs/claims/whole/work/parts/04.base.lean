/-! ===== the heap as numbers by address ===== -/
abbrev Hp : Type := Nat × (Nat → Option (Nat × Nat)) × (Nat → Nat → Int32) × (Nat → Nat → UInt64) × (Nat → Nat → Option Nat)
def hpS (h : Hp) : Nat := h.1
def hpK (h : Hp) : Nat → Option (Nat × Nat) := h.2.1
def hpI (h : Hp) : Nat → Nat → Int32 := h.2.2.1
def hpD (h : Hp) : Nat → Nat → UInt64 := h.2.2.2.1
def hpR (h : Hp) : Nat → Nat → Option Nat := h.2.2.2.2
def up2 {α : Type} (f : Nat → Nat → α) (a k : Nat) (v : α) : Nat → Nat → α := fun b j => if b = a then (if j = k then v else f b j) else f b j
def stI (h : Hp) (a k : Nat) (v : Int32) : Hp := (h.1, h.2.1, up2 h.2.2.1 a k v, h.2.2.2.1, h.2.2.2.2)
def stD (h : Hp) (a k : Nat) (v : UInt64) : Hp := (h.1, h.2.1, h.2.2.1, up2 h.2.2.2.1 a k v, h.2.2.2.2)
def stR (h : Hp) (a k : Nat) (v : Option Nat) : Hp := (h.1, h.2.1, h.2.2.1, h.2.2.2.1, up2 h.2.2.2.2 a k v)
def alo (h : Hp) (kd : Nat × Nat) : Hp := (h.1 + 1, va_up h.2.1 h.1 (some kd), va_up h.2.2.1 h.1 (fun _ => 0), va_up h.2.2.2.1 h.1 (fun _ => 0), va_up h.2.2.2.2 h.1 (fun _ => none))
def ab_ck (h : Hp) (r : Option Nat) (kd : Nat × Nat) : Option Nat := r.bind fun a => if hpK h a = some kd then some a else none
def getI (h : Hp) (r : Option Nat) (c k : Nat) : Option Int32 := (ab_ck h r (c, 0)).map fun a => hpI h a k
def getD (h : Hp) (r : Option Nat) (c k : Nat) : Option UInt64 := (ab_ck h r (c, 0)).map fun a => hpD h a k
def getR (h : Hp) (r : Option Nat) (c k : Nat) : Option (Option Nat) := (ab_ck h r (c, 0)).map fun a => hpR h a k
def putI (h : Hp) (r : Option Nat) (c k : Nat) (v : Int32) : Option Hp := (ab_ck h r (c, 0)).map fun a => stI h a k v
def putZ (h : Hp) (r : Option Nat) (c k : Nat) (v : Int32) : Option Hp := if v = 0 ∨ v = 1 then putI h r c k v else none
def putD (h : Hp) (r : Option Nat) (c k : Nat) (v : UInt64) : Option Hp := (ab_ck h r (c, 0)).map fun a => stD h a k v
def putR (h : Hp) (r : Option Nat) (c k : Nat) (v : Option Nat) : Option Hp := (ab_ck h r (c, 0)).map fun a => stR h a k v
def ab_ar (h : Hp) (r : Option Nat) (t : Nat) (i : Int32) : Option Nat := r.bind fun a => (hpK h a).bind fun kd => if kd.1 = t ∧ ¬ (i < 0 ∨ kd.2 ≤ i.toNatClampNeg) then some a else none
def aldI (h : Hp) (r : Option Nat) (t : Nat) (i : Int32) : Option Int32 := (ab_ar h r t i).map fun a => hpI h a i.toNatClampNeg
def aldD (h : Hp) (r : Option Nat) (i : Int32) : Option UInt64 := (ab_ar h r 10 i).map fun a => hpD h a i.toNatClampNeg
def aldR (h : Hp) (r : Option Nat) (t : Nat) (i : Int32) : Option (Option Nat) := (ab_ar h r t i).map fun a => hpR h a i.toNatClampNeg
def astI (h : Hp) (r : Option Nat) (i : Int32) (v : Int32) : Option Hp := (ab_ar h r 11 i).map fun a => stI h a i.toNatClampNeg v
def astZ (h : Hp) (r : Option Nat) (i : Int32) (v : Int32) : Option Hp := (ab_ar h r 12 i).map fun a => stI h a i.toNatClampNeg (vp_nar .boolean v)
def astD (h : Hp) (r : Option Nat) (i : Int32) (v : UInt64) : Option Hp := (ab_ar h r 10 i).map fun a => stD h a i.toNatClampNeg v
def ab_ec : Nat → Nat
  | 13 => 1
  | 14 => 3
  | 15 => 4
  | _ => 5
def astR (h : Hp) (r : Option Nat) (t : Nat) (i : Int32) (v : Option Nat) : Option Hp := (ab_ar h r t i).bind fun a => (ab_ck h v (ab_ec t, 0)).map fun b => stR h a i.toNatClampNeg (some b)
def alen (h : Hp) (r : Option Nat) (t : Nat) : Option Int32 := r.bind fun a => (hpK h a).bind fun kd => if kd.1 = t then some (Int32.ofNat kd.2) else none
def bnd {α β : Type} (o : Option (α × Hp)) (f : α → Hp → Option β) : Option β := match o with
  | some (r, h) => f r h
  | none => none
def fop (r : UInt64) : Option UInt64 := if r &&& 0x7fffffffffffffff ≤ 0x7ff0000000000000 then some r else none
def fop32 (r : UInt32) : Option UInt32 := if r &&& 0x7fffffff ≤ 0x7f800000 then some r else none
def newa (h : Hp) (t : Nat) (n : Int32) : Option (Option Nat × Hp) := if n < 0 ∨ 1000 < n.toNatClampNeg then none else some (some (hpS h), alo h (t, n.toNatClampNeg))
def newo {γ : Type} (h : Hp) (c : Nat) (f : Nat → Hp → Option γ) : Option γ := f (hpS h) (alo h (c, 0))
def stgI (j : Nat) : Int32 := match j with
  | 0 => 1
  | 1 => 2
  | 2 => 3
  | 3 => 4
  | 4 => 4
  | 5 => 2
  | _ => 3
def stg (i : Int32) : Option Int32 := if i < 0 ∨ 7 ≤ i.toNatClampNeg then none else some (stgI i.toNatClampNeg)
/-! ===== the heap of numbers against the machine's ===== -/
def ab_tc : FieldType → Nat
  | .double => 1
  | .object _ => 2
  | .array _ => 2
  | _ => 0
def ab_ty (c k : Nat) : FieldType := match c with
  | 0 => tyX0 k
  | 1 => tyX1 k
  | 2 => tyX2 k
  | 3 => tyX3 k
  | 4 => tyX4 k
  | 5 => tyX5 k
  | 6 => tyX6 k
  | 7 => tyX7 k
  | 8 => tyX8 k
  | _ => tyX9 k
def ab_NF : Nat → Nat
  | 0 => 9
  | 1 => 14
  | 2 => 2
  | 3 => 2
  | 4 => 12
  | 5 => 4
  | 6 => 14
  | 7 => 1
  | 8 => 11
  | _ => 62
def ab_vof (ty : FieldType) (h : Hp) (a k : Nat) : Value := if ab_tc ty = 0 then .int (hpI h a k) else if ab_tc ty = 1 then .double (hpD h a k) else va_rf (hpR h a k)
def ab_fs (h : Hp) (a c : Nat) : List Value := (List.range (ab_NF c)).map fun k => ab_vof (ab_ty c k) h a k
def ab_ac (h : Hp) (a : Nat) (kd : Nat × Nat) : vp_A := (kd.2, if kd.1 = 10 then .inr (.inr (.inr (.inl (hpD h a)))) else if kd.1 = 11 then .inl (hpI h a) else if kd.1 = 12 then .inl (hpI h a) else .inr (.inr (.inr (.inr (hpR h a)))))
def ab_ct (cA : Nat → ClassId) (h : Hp) (a : Nat) (kd : Nat × Nat) : va_E := if kd.1 < 10 then .inr (kd.1, ab_fs h a kd.1) else .inl (cA kd.1, ab_ac h a kd)
def ab_R (D : va_G) (cA : Nat → ClassId) (sz : Nat) (h : Hp) (H : Heap) : Prop := H.size = hpS h ∧ sz ≤ hpS h ∧ ∀ (a : Nat) (kd : Nat × Nat), hpK h a = some kd → va_at D vwCl (a, ab_ct cA h a kd) H ∧ sz ≤ a
abbrev ab_ts (cA : Nat → ClassId) : List (ClassId × FieldType) := [(cA 10, .double), (cA 11, .int), (cA 12, .boolean), (cA 13, .object RX1), (cA 14, .object RX3), (cA 15, .object RX4), (cA 16, .object RX5)]
def ab_stg (j : Nat) : Value := .int (stgI j)
/-- what the tables and the statics say -/
def ab_T (D : va_G) (cA : Nat → ClassId) (sz : Nat) (U : State) : Prop := va_K D vwCl (ab_ts cA) U ∧ (∃ t : Nat, va_Z "MotionStepper" "STAGES" "[I" (.ref t) (fun q => sz ≤ q) U U.heap ∧ va_T .int t 7 ab_stg (fun q => sz ≤ q) U U.heap) ∧ (va_Nw (.methodLinkNest RX1 109 yX8_size RX8) U ∧ va_Nw (.methodLinkNest RX6 178 yX8_size RX8) U) ∧ va_AO RX1 U ∧ va_AO RX3 U ∧ va_AO RX4 U ∧ va_AO RX5 U
/-- a method's world -/
def ab_W (D : va_G) (cA : Nat → ClassId) (sz : Nat) (h : Hp) (U : State) : Prop := ab_T D cA sz U ∧ ab_R D cA sz h U.heap
/-- where a walk stands -/
def ab_X (p : Program) (s : State) (m : MethodId) (args : Array Value) (meth : Method) (c : Code) (cc : ByteArray) (nL : Nat) (own : String) (D : va_G) (cA : Nat → ClassId) (sz : Nat) : Prop :=
  p.tables.exec = Jvm.exec ∧ c.code = cc ∧ c.maxLocals = nL ∧ s.vm.findClass own = some m.cls ∧ (∀ w ∈ wsL_law, w.before args s = true) ∧ ab_T D cA sz s ∧ meth.locks = false ∧ sz ≤ s.heap.size
def ab_H (D : va_G) (cA : Nat → ClassId) (sz : Nat) (h : Hp) (s : State) (H : Heap) (locs : List Loc) : Prop := ab_R D cA sz h H ∧ va_S (fun q => sz ≤ q) s.heap H locs
def ab_FI (ci k : Nat) (C : String) (T : u_T) (N t : Nat) : Prop := vwCl[ci]? = some (C, T, N) ∧ (∀ w ∈ u_ws C T N, w ∈ wsL_law) ∧ k < N ∧ ab_NF ci = N ∧ ci < 10 ∧ ab_tc (ab_ty ci k) = t
theorem ab_fs_get {h : Hp} {a c k : Nat} (hk : k < ab_NF c) : (ab_fs h a c)[k]? = some (ab_vof (ab_ty c k) h a k) := by
  unfold ab_fs
  rw [List.getElem?_map, List.getElem?_range hk]
  rfl
theorem ab_ck_some {h : Hp} {r : Option Nat} {kd : Nat × Nat} {a : Nat} (e : ab_ck h r kd = some a) : r = some a ∧ hpK h a = some kd := by
  cases r with
  | none => cases e
  | some b =>
    simp only [ab_ck, Option.bind_some] at e
    split at e
    · cases e; exact ⟨rfl, by assumption⟩
    · cases e
theorem ab_ar_some {h : Hp} {r : Option Nat} {t : Nat} {i : Int32} {a : Nat} (e : ab_ar h r t i = some a) : r = some a ∧ ∃ n, hpK h a = some (t, n) ∧ vp_in i n := by
  cases r with
  | none => cases e
  | some b =>
    simp only [ab_ar, Option.bind_some] at e
    cases hk : hpK h b with
    | none => rw [hk] at e; cases e
    | some kd =>
      rw [hk] at e
      simp only [Option.bind_some] at e
      split at e
      · rename_i hc
        cases e
        obtain ⟨t0, n0⟩ := kd
        obtain ⟨h1, h2⟩ := hc
        cases h1
        exact ⟨rfl, n0, hk, h2⟩
      · cases e
theorem bind_out {α β : Type} {o : Option α} {f : α → Option β} {res : β} (e : o.bind f = some res) : ∃ x, o = some x ∧ f x = some res := by
  cases o with
  | none => cases e
  | some x => exact ⟨x, rfl, e⟩
theorem bnd_out {α β : Type} {o : Option (α × Hp)} {f : α → Hp → Option β} {res : β} (e : bnd o f = some res) : ∃ x h1, o = some (x, h1) ∧ f x h1 = some res := by
  match o, e with
  | some (x, h1), e => exact ⟨x, h1, rfl, e⟩
theorem map_out {α β : Type} {o : Option α} {f : α → β} {res : β} (e : o.map f = some res) : ∃ x, o = some x ∧ f x = res := by
  cases o with
  | none => cases e
  | some x => exact ⟨x, rfl, Option.some.inj e⟩
theorem ab_R.one {D : va_G} {cA : Nat → ClassId} {sz : Nat} {h : Hp} {H : Heap} (hR : ab_R D cA sz h H) {a : Nat} {kd : Nat × Nat} (hk : hpK h a = some kd) : va_P D vwCl [(a, ab_ct cA h a kd)] H := by
  intro k q hq
  cases k with
  | zero => cases hq; exact (hR.2.2 a kd hk).1
  | succ k => simp at hq
/-- a cell is written: the others stay -/
theorem ab_R.set {D : va_G} {cA : Nat → ClassId} {sz : Nat} {h h' : Hp} {H H1 : Heap} (hR : ab_R D cA sz h H) {a : Nat} {kd : Nat × Nat} (hk : hpK h a = some kd) (e1 : hpS h' = hpS h) (e2 : hpK h' = hpK h) (e3 : ∀ b kd, b ≠ a → ab_ct cA h' b kd = ab_ct cA h b kd)
    (hat : va_at D vwCl (a, ab_ct cA h' a kd) H1) (z : H1.size = H.size) (oq : ∀ q : Nat, q ≠ a → H1[q]? = H[q]?) : ab_R D cA sz h' H1 := by
  refine ⟨by rw [z, e1]; exact hR.1, by rw [e1]; exact hR.2.1, fun b kd' hb => ?_⟩
  rw [e2] at hb
  by_cases hba : b = a
  · subst hba
    rw [hk] at hb
    cases hb
    exact ⟨hat, (hR.2.2 b _ hk).2⟩
  · rw [e3 b kd' hba]
    exact ⟨(hR.2.2 b kd' hb).1.kept (oq b hba), (hR.2.2 b kd' hb).2⟩
theorem ab_ct_stI {cA : Nat → ClassId} {h : Hp} {a k : Nat} {v : Int32} (b : Nat) (kd : Nat × Nat) (hb : b ≠ a) : ab_ct cA (stI h a k v) b kd = ab_ct cA h b kd := by
  have e : hpI (stI h a k v) b = hpI h b := by funext j; simp [hpI, stI, up2, hb]
  simp only [ab_ct, ab_fs, ab_ac, ab_vof, e]
  rfl
theorem ab_ct_stD {cA : Nat → ClassId} {h : Hp} {a k : Nat} {v : UInt64} (b : Nat) (kd : Nat × Nat) (hb : b ≠ a) : ab_ct cA (stD h a k v) b kd = ab_ct cA h b kd := by
  have e : hpD (stD h a k v) b = hpD h b := by funext j; simp [hpD, stD, up2, hb]
  simp only [ab_ct, ab_fs, ab_ac, ab_vof, e]
  rfl
theorem ab_ct_stR {cA : Nat → ClassId} {h : Hp} {a k : Nat} {v : Option Nat} (b : Nat) (kd : Nat × Nat) (hb : b ≠ a) : ab_ct cA (stR h a k v) b kd = ab_ct cA h b kd := by
  have e : hpR (stR h a k v) b = hpR h b := by funext j; simp [hpR, stR, up2, hb]
  simp only [ab_ct, ab_fs, ab_ac, ab_vof, e]
  rfl
theorem fi_0_0 : ab_FI 0 0 RX0 TX0 9 0 := ⟨rfl, inlX0, by decide, rfl, by decide, rfl⟩
theorem fi_0_1 : ab_FI 0 1 RX0 TX0 9 2 := ⟨rfl, inlX0, by decide, rfl, by decide, rfl⟩
theorem fi_0_2 : ab_FI 0 2 RX0 TX0 9 2 := ⟨rfl, inlX0, by decide, rfl, by decide, rfl⟩
theorem fi_0_3 : ab_FI 0 3 RX0 TX0 9 2 := ⟨rfl, inlX0, by decide, rfl, by decide, rfl⟩
theorem fi_0_4 : ab_FI 0 4 RX0 TX0 9 2 := ⟨rfl, inlX0, by decide, rfl, by decide, rfl⟩
theorem fi_0_5 : ab_FI 0 5 RX0 TX0 9 2 := ⟨rfl, inlX0, by decide, rfl, by decide, rfl⟩
theorem fi_0_6 : ab_FI 0 6 RX0 TX0 9 0 := ⟨rfl, inlX0, by decide, rfl, by decide, rfl⟩
theorem fi_0_7 : ab_FI 0 7 RX0 TX0 9 2 := ⟨rfl, inlX0, by decide, rfl, by decide, rfl⟩
theorem fi_0_8 : ab_FI 0 8 RX0 TX0 9 2 := ⟨rfl, inlX0, by decide, rfl, by decide, rfl⟩
theorem fi_1_0 : ab_FI 1 0 RX1 TX1 14 0 := ⟨rfl, inlX1, by decide, rfl, by decide, rfl⟩
theorem fi_1_1 : ab_FI 1 1 RX1 TX1 14 0 := ⟨rfl, inlX1, by decide, rfl, by decide, rfl⟩
theorem fi_1_2 : ab_FI 1 2 RX1 TX1 14 0 := ⟨rfl, inlX1, by decide, rfl, by decide, rfl⟩
theorem fi_1_3 : ab_FI 1 3 RX1 TX1 14 2 := ⟨rfl, inlX1, by decide, rfl, by decide, rfl⟩
theorem fi_1_4 : ab_FI 1 4 RX1 TX1 14 2 := ⟨rfl, inlX1, by decide, rfl, by decide, rfl⟩
theorem fi_1_5 : ab_FI 1 5 RX1 TX1 14 2 := ⟨rfl, inlX1, by decide, rfl, by decide, rfl⟩
theorem fi_1_6 : ab_FI 1 6 RX1 TX1 14 2 := ⟨rfl, inlX1, by decide, rfl, by decide, rfl⟩
theorem fi_1_7 : ab_FI 1 7 RX1 TX1 14 2 := ⟨rfl, inlX1, by decide, rfl, by decide, rfl⟩
theorem fi_1_8 : ab_FI 1 8 RX1 TX1 14 2 := ⟨rfl, inlX1, by decide, rfl, by decide, rfl⟩
theorem fi_1_9 : ab_FI 1 9 RX1 TX1 14 2 := ⟨rfl, inlX1, by decide, rfl, by decide, rfl⟩
theorem fi_1_10 : ab_FI 1 10 RX1 TX1 14 0 := ⟨rfl, inlX1, by decide, rfl, by decide, rfl⟩
theorem fi_1_11 : ab_FI 1 11 RX1 TX1 14 2 := ⟨rfl, inlX1, by decide, rfl, by decide, rfl⟩
theorem fi_1_12 : ab_FI 1 12 RX1 TX1 14 0 := ⟨rfl, inlX1, by decide, rfl, by decide, rfl⟩
theorem fi_1_13 : ab_FI 1 13 RX1 TX1 14 2 := ⟨rfl, inlX1, by decide, rfl, by decide, rfl⟩
theorem fi_2_0 : ab_FI 2 0 RX2 TX2 2 1 := ⟨rfl, inlX2, by decide, rfl, by decide, rfl⟩
theorem fi_2_1 : ab_FI 2 1 RX2 TX2 2 0 := ⟨rfl, inlX2, by decide, rfl, by decide, rfl⟩
theorem fi_3_0 : ab_FI 3 0 RX3 TX3 2 2 := ⟨rfl, inlX3, by decide, rfl, by decide, rfl⟩
theorem fi_3_1 : ab_FI 3 1 RX3 TX3 2 2 := ⟨rfl, inlX3, by decide, rfl, by decide, rfl⟩
theorem fi_4_0 : ab_FI 4 0 RX4 TX4 12 2 := ⟨rfl, inlX4, by decide, rfl, by decide, rfl⟩
theorem fi_4_1 : ab_FI 4 1 RX4 TX4 12 1 := ⟨rfl, inlX4, by decide, rfl, by decide, rfl⟩
theorem fi_4_2 : ab_FI 4 2 RX4 TX4 12 2 := ⟨rfl, inlX4, by decide, rfl, by decide, rfl⟩
theorem fi_4_3 : ab_FI 4 3 RX4 TX4 12 0 := ⟨rfl, inlX4, by decide, rfl, by decide, rfl⟩
theorem fi_4_4 : ab_FI 4 4 RX4 TX4 12 1 := ⟨rfl, inlX4, by decide, rfl, by decide, rfl⟩
theorem fi_4_5 : ab_FI 4 5 RX4 TX4 12 1 := ⟨rfl, inlX4, by decide, rfl, by decide, rfl⟩
theorem fi_4_6 : ab_FI 4 6 RX4 TX4 12 1 := ⟨rfl, inlX4, by decide, rfl, by decide, rfl⟩
theorem fi_4_7 : ab_FI 4 7 RX4 TX4 12 0 := ⟨rfl, inlX4, by decide, rfl, by decide, rfl⟩
theorem fi_4_8 : ab_FI 4 8 RX4 TX4 12 0 := ⟨rfl, inlX4, by decide, rfl, by decide, rfl⟩
theorem fi_4_9 : ab_FI 4 9 RX4 TX4 12 0 := ⟨rfl, inlX4, by decide, rfl, by decide, rfl⟩
theorem fi_4_10 : ab_FI 4 10 RX4 TX4 12 2 := ⟨rfl, inlX4, by decide, rfl, by decide, rfl⟩
theorem fi_4_11 : ab_FI 4 11 RX4 TX4 12 2 := ⟨rfl, inlX4, by decide, rfl, by decide, rfl⟩
theorem fi_5_0 : ab_FI 5 0 RX5 TX5 4 0 := ⟨rfl, inlX5, by decide, rfl, by decide, rfl⟩
theorem fi_5_1 : ab_FI 5 1 RX5 TX5 4 2 := ⟨rfl, inlX5, by decide, rfl, by decide, rfl⟩
theorem fi_5_2 : ab_FI 5 2 RX5 TX5 4 2 := ⟨rfl, inlX5, by decide, rfl, by decide, rfl⟩
theorem fi_5_3 : ab_FI 5 3 RX5 TX5 4 0 := ⟨rfl, inlX5, by decide, rfl, by decide, rfl⟩
theorem fi_6_0 : ab_FI 6 0 RX6 TX6 14 2 := ⟨rfl, inlX6, by decide, rfl, by decide, rfl⟩
theorem fi_6_1 : ab_FI 6 1 RX6 TX6 14 2 := ⟨rfl, inlX6, by decide, rfl, by decide, rfl⟩
theorem fi_6_2 : ab_FI 6 2 RX6 TX6 14 0 := ⟨rfl, inlX6, by decide, rfl, by decide, rfl⟩
theorem fi_6_3 : ab_FI 6 3 RX6 TX6 14 1 := ⟨rfl, inlX6, by decide, rfl, by decide, rfl⟩
theorem fi_6_4 : ab_FI 6 4 RX6 TX6 14 1 := ⟨rfl, inlX6, by decide, rfl, by decide, rfl⟩
theorem fi_6_5 : ab_FI 6 5 RX6 TX6 14 1 := ⟨rfl, inlX6, by decide, rfl, by decide, rfl⟩
theorem fi_6_6 : ab_FI 6 6 RX6 TX6 14 2 := ⟨rfl, inlX6, by decide, rfl, by decide, rfl⟩
theorem fi_6_7 : ab_FI 6 7 RX6 TX6 14 2 := ⟨rfl, inlX6, by decide, rfl, by decide, rfl⟩
theorem fi_6_8 : ab_FI 6 8 RX6 TX6 14 2 := ⟨rfl, inlX6, by decide, rfl, by decide, rfl⟩
theorem fi_6_9 : ab_FI 6 9 RX6 TX6 14 2 := ⟨rfl, inlX6, by decide, rfl, by decide, rfl⟩
theorem fi_6_10 : ab_FI 6 10 RX6 TX6 14 2 := ⟨rfl, inlX6, by decide, rfl, by decide, rfl⟩
theorem fi_6_11 : ab_FI 6 11 RX6 TX6 14 2 := ⟨rfl, inlX6, by decide, rfl, by decide, rfl⟩
theorem fi_6_12 : ab_FI 6 12 RX6 TX6 14 1 := ⟨rfl, inlX6, by decide, rfl, by decide, rfl⟩
theorem fi_6_13 : ab_FI 6 13 RX6 TX6 14 0 := ⟨rfl, inlX6, by decide, rfl, by decide, rfl⟩
theorem fi_7_0 : ab_FI 7 0 RX7 TX7 1 2 := ⟨rfl, inlX7, by decide, rfl, by decide, rfl⟩
theorem fi_8_0 : ab_FI 8 0 RX8 TX8 11 2 := ⟨rfl, inlX8, by decide, rfl, by decide, rfl⟩
theorem fi_8_1 : ab_FI 8 1 RX8 TX8 11 2 := ⟨rfl, inlX8, by decide, rfl, by decide, rfl⟩
theorem fi_8_2 : ab_FI 8 2 RX8 TX8 11 2 := ⟨rfl, inlX8, by decide, rfl, by decide, rfl⟩
theorem fi_8_3 : ab_FI 8 3 RX8 TX8 11 0 := ⟨rfl, inlX8, by decide, rfl, by decide, rfl⟩
theorem fi_8_4 : ab_FI 8 4 RX8 TX8 11 2 := ⟨rfl, inlX8, by decide, rfl, by decide, rfl⟩
theorem fi_8_5 : ab_FI 8 5 RX8 TX8 11 0 := ⟨rfl, inlX8, by decide, rfl, by decide, rfl⟩
theorem fi_8_6 : ab_FI 8 6 RX8 TX8 11 2 := ⟨rfl, inlX8, by decide, rfl, by decide, rfl⟩
theorem fi_8_7 : ab_FI 8 7 RX8 TX8 11 0 := ⟨rfl, inlX8, by decide, rfl, by decide, rfl⟩
theorem fi_8_8 : ab_FI 8 8 RX8 TX8 11 2 := ⟨rfl, inlX8, by decide, rfl, by decide, rfl⟩
theorem fi_8_9 : ab_FI 8 9 RX8 TX8 11 2 := ⟨rfl, inlX8, by decide, rfl, by decide, rfl⟩
theorem fi_8_10 : ab_FI 8 10 RX8 TX8 11 2 := ⟨rfl, inlX8, by decide, rfl, by decide, rfl⟩
theorem fi_9_0 : ab_FI 9 0 RX9 TX9 62 2 := ⟨rfl, inlX9, by decide, rfl, by decide, rfl⟩
theorem fi_9_1 : ab_FI 9 1 RX9 TX9 62 2 := ⟨rfl, inlX9, by decide, rfl, by decide, rfl⟩
theorem fi_9_2 : ab_FI 9 2 RX9 TX9 62 2 := ⟨rfl, inlX9, by decide, rfl, by decide, rfl⟩
theorem fi_9_3 : ab_FI 9 3 RX9 TX9 62 2 := ⟨rfl, inlX9, by decide, rfl, by decide, rfl⟩
theorem fi_9_4 : ab_FI 9 4 RX9 TX9 62 2 := ⟨rfl, inlX9, by decide, rfl, by decide, rfl⟩
theorem fi_9_5 : ab_FI 9 5 RX9 TX9 62 2 := ⟨rfl, inlX9, by decide, rfl, by decide, rfl⟩
theorem fi_9_6 : ab_FI 9 6 RX9 TX9 62 2 := ⟨rfl, inlX9, by decide, rfl, by decide, rfl⟩
theorem fi_9_7 : ab_FI 9 7 RX9 TX9 62 2 := ⟨rfl, inlX9, by decide, rfl, by decide, rfl⟩
theorem fi_9_8 : ab_FI 9 8 RX9 TX9 62 2 := ⟨rfl, inlX9, by decide, rfl, by decide, rfl⟩
theorem fi_9_9 : ab_FI 9 9 RX9 TX9 62 0 := ⟨rfl, inlX9, by decide, rfl, by decide, rfl⟩
theorem fi_9_10 : ab_FI 9 10 RX9 TX9 62 2 := ⟨rfl, inlX9, by decide, rfl, by decide, rfl⟩
theorem fi_9_11 : ab_FI 9 11 RX9 TX9 62 2 := ⟨rfl, inlX9, by decide, rfl, by decide, rfl⟩
theorem fi_9_12 : ab_FI 9 12 RX9 TX9 62 2 := ⟨rfl, inlX9, by decide, rfl, by decide, rfl⟩
theorem fi_9_13 : ab_FI 9 13 RX9 TX9 62 2 := ⟨rfl, inlX9, by decide, rfl, by decide, rfl⟩
theorem fi_9_14 : ab_FI 9 14 RX9 TX9 62 0 := ⟨rfl, inlX9, by decide, rfl, by decide, rfl⟩
theorem fi_9_15 : ab_FI 9 15 RX9 TX9 62 2 := ⟨rfl, inlX9, by decide, rfl, by decide, rfl⟩
theorem fi_9_16 : ab_FI 9 16 RX9 TX9 62 2 := ⟨rfl, inlX9, by decide, rfl, by decide, rfl⟩
theorem fi_9_17 : ab_FI 9 17 RX9 TX9 62 2 := ⟨rfl, inlX9, by decide, rfl, by decide, rfl⟩
theorem fi_9_18 : ab_FI 9 18 RX9 TX9 62 2 := ⟨rfl, inlX9, by decide, rfl, by decide, rfl⟩
theorem fi_9_19 : ab_FI 9 19 RX9 TX9 62 2 := ⟨rfl, inlX9, by decide, rfl, by decide, rfl⟩
theorem fi_9_20 : ab_FI 9 20 RX9 TX9 62 2 := ⟨rfl, inlX9, by decide, rfl, by decide, rfl⟩
theorem fi_9_21 : ab_FI 9 21 RX9 TX9 62 2 := ⟨rfl, inlX9, by decide, rfl, by decide, rfl⟩
theorem fi_9_22 : ab_FI 9 22 RX9 TX9 62 2 := ⟨rfl, inlX9, by decide, rfl, by decide, rfl⟩
theorem fi_9_23 : ab_FI 9 23 RX9 TX9 62 2 := ⟨rfl, inlX9, by decide, rfl, by decide, rfl⟩
theorem fi_9_24 : ab_FI 9 24 RX9 TX9 62 2 := ⟨rfl, inlX9, by decide, rfl, by decide, rfl⟩
theorem fi_9_25 : ab_FI 9 25 RX9 TX9 62 2 := ⟨rfl, inlX9, by decide, rfl, by decide, rfl⟩
theorem fi_9_26 : ab_FI 9 26 RX9 TX9 62 2 := ⟨rfl, inlX9, by decide, rfl, by decide, rfl⟩
theorem fi_9_27 : ab_FI 9 27 RX9 TX9 62 2 := ⟨rfl, inlX9, by decide, rfl, by decide, rfl⟩
theorem fi_9_28 : ab_FI 9 28 RX9 TX9 62 2 := ⟨rfl, inlX9, by decide, rfl, by decide, rfl⟩
theorem fi_9_29 : ab_FI 9 29 RX9 TX9 62 2 := ⟨rfl, inlX9, by decide, rfl, by decide, rfl⟩
theorem fi_9_30 : ab_FI 9 30 RX9 TX9 62 2 := ⟨rfl, inlX9, by decide, rfl, by decide, rfl⟩
theorem fi_9_31 : ab_FI 9 31 RX9 TX9 62 2 := ⟨rfl, inlX9, by decide, rfl, by decide, rfl⟩
theorem fi_9_32 : ab_FI 9 32 RX9 TX9 62 2 := ⟨rfl, inlX9, by decide, rfl, by decide, rfl⟩
theorem fi_9_33 : ab_FI 9 33 RX9 TX9 62 2 := ⟨rfl, inlX9, by decide, rfl, by decide, rfl⟩
theorem fi_9_34 : ab_FI 9 34 RX9 TX9 62 2 := ⟨rfl, inlX9, by decide, rfl, by decide, rfl⟩
theorem fi_9_35 : ab_FI 9 35 RX9 TX9 62 2 := ⟨rfl, inlX9, by decide, rfl, by decide, rfl⟩
theorem fi_9_36 : ab_FI 9 36 RX9 TX9 62 2 := ⟨rfl, inlX9, by decide, rfl, by decide, rfl⟩
theorem fi_9_37 : ab_FI 9 37 RX9 TX9 62 2 := ⟨rfl, inlX9, by decide, rfl, by decide, rfl⟩
theorem fi_9_38 : ab_FI 9 38 RX9 TX9 62 2 := ⟨rfl, inlX9, by decide, rfl, by decide, rfl⟩
theorem fi_9_39 : ab_FI 9 39 RX9 TX9 62 2 := ⟨rfl, inlX9, by decide, rfl, by decide, rfl⟩
theorem fi_9_40 : ab_FI 9 40 RX9 TX9 62 2 := ⟨rfl, inlX9, by decide, rfl, by decide, rfl⟩
theorem fi_9_41 : ab_FI 9 41 RX9 TX9 62 2 := ⟨rfl, inlX9, by decide, rfl, by decide, rfl⟩
theorem fi_9_42 : ab_FI 9 42 RX9 TX9 62 2 := ⟨rfl, inlX9, by decide, rfl, by decide, rfl⟩
theorem fi_9_43 : ab_FI 9 43 RX9 TX9 62 2 := ⟨rfl, inlX9, by decide, rfl, by decide, rfl⟩
theorem fi_9_44 : ab_FI 9 44 RX9 TX9 62 2 := ⟨rfl, inlX9, by decide, rfl, by decide, rfl⟩
theorem fi_9_45 : ab_FI 9 45 RX9 TX9 62 0 := ⟨rfl, inlX9, by decide, rfl, by decide, rfl⟩
theorem fi_9_46 : ab_FI 9 46 RX9 TX9 62 2 := ⟨rfl, inlX9, by decide, rfl, by decide, rfl⟩
theorem fi_9_47 : ab_FI 9 47 RX9 TX9 62 2 := ⟨rfl, inlX9, by decide, rfl, by decide, rfl⟩
theorem fi_9_48 : ab_FI 9 48 RX9 TX9 62 2 := ⟨rfl, inlX9, by decide, rfl, by decide, rfl⟩
theorem fi_9_49 : ab_FI 9 49 RX9 TX9 62 2 := ⟨rfl, inlX9, by decide, rfl, by decide, rfl⟩
theorem fi_9_50 : ab_FI 9 50 RX9 TX9 62 2 := ⟨rfl, inlX9, by decide, rfl, by decide, rfl⟩
theorem fi_9_51 : ab_FI 9 51 RX9 TX9 62 2 := ⟨rfl, inlX9, by decide, rfl, by decide, rfl⟩
theorem fi_9_52 : ab_FI 9 52 RX9 TX9 62 2 := ⟨rfl, inlX9, by decide, rfl, by decide, rfl⟩
theorem fi_9_53 : ab_FI 9 53 RX9 TX9 62 2 := ⟨rfl, inlX9, by decide, rfl, by decide, rfl⟩
theorem fi_9_54 : ab_FI 9 54 RX9 TX9 62 2 := ⟨rfl, inlX9, by decide, rfl, by decide, rfl⟩
theorem fi_9_55 : ab_FI 9 55 RX9 TX9 62 2 := ⟨rfl, inlX9, by decide, rfl, by decide, rfl⟩
theorem fi_9_56 : ab_FI 9 56 RX9 TX9 62 2 := ⟨rfl, inlX9, by decide, rfl, by decide, rfl⟩
theorem fi_9_57 : ab_FI 9 57 RX9 TX9 62 2 := ⟨rfl, inlX9, by decide, rfl, by decide, rfl⟩
theorem fi_9_58 : ab_FI 9 58 RX9 TX9 62 2 := ⟨rfl, inlX9, by decide, rfl, by decide, rfl⟩
theorem fi_9_59 : ab_FI 9 59 RX9 TX9 62 2 := ⟨rfl, inlX9, by decide, rfl, by decide, rfl⟩
theorem fi_9_60 : ab_FI 9 60 RX9 TX9 62 0 := ⟨rfl, inlX9, by decide, rfl, by decide, rfl⟩
theorem fi_9_61 : ab_FI 9 61 RX9 TX9 62 0 := ⟨rfl, inlX9, by decide, rfl, by decide, rfl⟩
def ab_CI (ci : Nat) (T : u_T) (N : Nat) : Prop := (∀ k, k < N → parseFieldDescriptor (T k).2.2.1 = some (ab_ty ci k)) ∧ ∀ a, a < N → ∀ b, b < N → a ≠ b → (T a).2.1 ≠ (T b).2.1
section ABW
variable {p : Program} {l : Launch} {e : Env} {R : Room} {s : State} {m : MethodId} {args : Array Value} {below : List Frame} {meth : Method} {c : Code} {H : Heap} {locs : List Loc} {cells slots : Nat} {Q : State → Prop}
variable {cc : ByteArray} {pc : Nat} {ls : Array Slot} {rest : List Value} {D : va_G} {cA : Nat → ClassId} {sz nL : Nat} {own : String} {h : Hp}
theorem ab_getI {γ : Type} {r : Option Nat} {ci k N idx : Nat} {C : String} {T : u_T} {f : Int32 → Option γ} {res : γ} (X : ab_X p s m args meth c cc nL own D cA sz) (S : ab_H D cA sz h s H locs) (hF : (getI h r ci k).bind f = some res) (fi : ab_FI ci k C T N 0)
    (hlk : Cond.fieldLink own idx (T k).1 (T k).2.1 (T k).2.2.1 ∈ wsL_law) (hdg : decode cc pc = .ok (.getfield idx, 3))
    (kk : ∀ x : Int32, f x = some res → W p l e R s m args below meth c H locs cells slots Q (F0 m (pc + 3) ls (.int x :: rest))) : W p l e R s m args below meth c H locs cells slots Q (F0 m pc ls (va_rf r :: rest)) := by
  obtain ⟨x, h1, hG⟩ := bind_out hF
  obtain ⟨a, h2, h3⟩ := map_out h1
  obtain ⟨rfl, hk⟩ := ab_ck_some h2
  obtain ⟨hx, hb, hml, hown, hts, hT, -, -⟩ := X
  obtain ⟨hc, hin, hkN, hNF, hci, htc⟩ := fi
  refine va_get hx hb hts hin hown hT.1 (S.1.one hk) 0 (fs := ab_fs h a ci) (by simp [ab_ct, hci]) hc k hkN (hts _ hlk) (fun x hx => hx) (v := .int x) ?_ hdg (kk x hG)
  rw [ab_fs_get (by rw [hNF]; exact hkN), ab_vof, htc, if_pos rfl, h3]
theorem ab_getD {γ : Type} {r : Option Nat} {ci k N idx : Nat} {C : String} {T : u_T} {f : UInt64 → Option γ} {res : γ} (X : ab_X p s m args meth c cc nL own D cA sz) (S : ab_H D cA sz h s H locs) (hF : (getD h r ci k).bind f = some res) (fi : ab_FI ci k C T N 1)
    (hlk : Cond.fieldLink own idx (T k).1 (T k).2.1 (T k).2.2.1 ∈ wsL_law) (hdg : decode cc pc = .ok (.getfield idx, 3))
    (kk : ∀ x : UInt64, f x = some res → W p l e R s m args below meth c H locs cells slots Q (F0 m (pc + 3) ls (.double x :: rest))) : W p l e R s m args below meth c H locs cells slots Q (F0 m pc ls (va_rf r :: rest)) := by
  obtain ⟨x, h1, hG⟩ := bind_out hF
  obtain ⟨a, h2, h3⟩ := map_out h1
  obtain ⟨rfl, hk⟩ := ab_ck_some h2
  obtain ⟨hx, hb, hml, hown, hts, hT, -, -⟩ := X
  obtain ⟨hc, hin, hkN, hNF, hci, htc⟩ := fi
  refine va_get hx hb hts hin hown hT.1 (S.1.one hk) 0 (fs := ab_fs h a ci) (by simp [ab_ct, hci]) hc k hkN (hts _ hlk) (fun x hx => hx) (v := .double x) ?_ hdg (kk x hG)
  rw [ab_fs_get (by rw [hNF]; exact hkN), ab_vof, htc, if_neg (by decide), if_pos rfl, h3]
theorem ab_getR {γ : Type} {r : Option Nat} {ci k N idx : Nat} {C : String} {T : u_T} {f : Option Nat → Option γ} {res : γ} (X : ab_X p s m args meth c cc nL own D cA sz) (S : ab_H D cA sz h s H locs) (hF : (getR h r ci k).bind f = some res) (fi : ab_FI ci k C T N 2)
    (hlk : Cond.fieldLink own idx (T k).1 (T k).2.1 (T k).2.2.1 ∈ wsL_law) (hdg : decode cc pc = .ok (.getfield idx, 3))
    (kk : ∀ x : Option Nat, f x = some res → W p l e R s m args below meth c H locs cells slots Q (F0 m (pc + 3) ls (va_rf x :: rest))) : W p l e R s m args below meth c H locs cells slots Q (F0 m pc ls (va_rf r :: rest)) := by
  obtain ⟨x, h1, hG⟩ := bind_out hF
  obtain ⟨a, h2, h3⟩ := map_out h1
  obtain ⟨rfl, hk⟩ := ab_ck_some h2
  obtain ⟨hx, hb, hml, hown, hts, hT, -, -⟩ := X
  obtain ⟨hc, hin, hkN, hNF, hci, htc⟩ := fi
  refine va_get hx hb hts hin hown hT.1 (S.1.one hk) 0 (fs := ab_fs h a ci) (by simp [ab_ct, hci]) hc k hkN (hts _ hlk) (fun x hx => hx) (v := va_rf x) ?_ hdg (kk x hG)
  rw [ab_fs_get (by rw [hNF]; exact hkN), ab_vof, htc, if_neg (by decide), if_neg (by decide), h3]
/-- a field is written -/
theorem ab_put0 {a ci k N t idx : Nat} {C : String} {T : u_T} {v : Value} {h' : Hp} (X : ab_X p s m args meth c cc nL own D cA sz) (S : ab_H D cA sz h s H locs) (hk : hpK h a = some (ci, 0)) (fi : ab_FI ci k C T N t) (hCI : ab_CI ci T N) (hfin : (T k).2.2.2 = false ∨ ((T k).2.2.2 = true ∧ meth.name = "<init>" ∧ (T k).1 = own))
    (hn : narrow (ab_ty ci k) v = v) (hfit : fits (ab_ty ci k) v = true) (e1 : hpS h' = hpS h) (e2 : hpK h' = hpK h) (e3 : ∀ b kd, b ≠ a → ab_ct cA h' b kd = ab_ct cA h b kd) (e4 : ∀ j, j < N → updV (fun j => ab_vof (ab_ty ci j) h a j) k v j = ab_vof (ab_ty ci j) h' a j)
    (hlk : Cond.fieldLink own idx (T k).1 (T k).2.1 (T k).2.2.1 ∈ wsL_law) (hdg : decode cc pc = .ok (.putfield idx, 3))
    (kk : ∀ (H1 : Heap) (locs1 : List Loc), ab_H D cA sz h' s H1 locs1 → W p l e R s m args below meth c H1 locs1 cells slots Q (F0 m (pc + 3) ls rest)) : W p l e R s m args below meth c H locs cells slots Q (F0 m pc ls (v :: .ref a :: rest)) := by
  obtain ⟨hx, hb, hml, hown, hts, hT, -, -⟩ := X
  obtain ⟨hc, hin, hkN, hNF, hci, htc⟩ := fi
  obtain ⟨hty, hnm⟩ := hCI
  have hap := va_apart (own := own) hts hin (ab_ty ci) hty hnm hT.1 hc
  have hat := (S.1.2.2 a _ hk).1
  have hct : ∀ hh : Hp, ab_ct cA hh a (ci, 0) = .inr (ci, ab_fs hh a ci) := fun hh => by simp [ab_ct, hci]
  rw [hct] at hat
  obtain ⟨r, h1, cell, q1, q2, q3, q4⟩ := hat
  have hr : r = (C, T, N) := Option.some.inj (h1.symm.trans hc)
  subst hr
  have q5 : ∀ j, j < N → cell.slots[D.2 ci j]? = some (ab_vof (ab_ty ci j) h a j) := fun j hj => by
    rw [q4 j hj]
    show some ((ab_fs h a ci).getD j .null) = _
    rw [List.getD_eq_getElem?_getD, ab_fs_get (by rw [hNF]; exact hj)]
    rfl
  have fin : ∀ H' : Heap, H'[a]? = some (cell.setSlot (D.2 ci k) v) → H'.size = H.size → (∀ q : Nat, q ≠ a → H'[q]? = H[q]?) → ab_R D cA sz h' H' := by
    intro H' g1 g2 g3
    refine S.1.set hk e1 e2 e3 ?_ g2 g3
    rw [hct]
    refine ⟨_, hc, t_OB.to (V := updV (fun j => ab_vof (ab_ty ci j) h a j) k v) ⟨_, g1, q2, q3, t_set q5 hap hkN v⟩ (fun j hj => ?_)⟩
    rw [e4 j hj]
    show _ = (ab_fs h' a ci).getD j .null
    rw [List.getD_eq_getElem?_getD, ab_fs_get (by rw [hNF]; exact hj)]
    rfl
  obtain ⟨hS, hfc, kC, hkC, hkind⟩ := hT.1.1 ci _ hc
  obtain ⟨cf, kf, fi', f, hi, hsl⟩ := hS k hkN
  have hlay := hts _ (hin _ (u_in_lay hkN))
  have hst := (u_facts hfc hkC (u_lays hts hin hkN) hi).1
  rcases hfin with hfin | ⟨hfin, hin2, hdecl⟩
  · unfold u_lay at hlay
    rw [if_neg (by rw [hfin]; decide)] at hlay
    have h6 := u_store hfc hkC hkind hlay hi (hty k hkN) hn hfit
    refine W.putK hx hb (f := f) ⟨hown, hts _ hlk, ⟨_, _, _, hi⟩, hst⟩ (by rw [q2]; exact h6) q1 q3 (by rw [hsl]; exact k2_hasslot (q4 k hkN)) rfl rfl hdg fun H' g1 g2 g3 => ?_
    rw [hsl] at g1 ⊢
    exact kk H' _ ⟨fin H' g1 g2 g3, S.2.put g2 g3 (S.1.2.2 a _ hk).2⟩
  · unfold u_lay at hlay
    rw [if_pos hfin] at hlay
    have hcf : m.cls = cf := by
      obtain ⟨_, _, c', _, _, _, -, -, hf', -, -, -, hown2, -⟩ := Cond.laysFinal_spec hlay
      have g1 : c' = cf := by have := hi.symm.trans hf'; simp at this; exact this.1.symm
      rw [hdecl] at hown2
      rw [← g1]; exact Option.some.inj (hown.symm.trans hown2)
    have h6 := u_fits hfc hkC hkind (Or.inr hlay) hi (hty k hkN) hn hfit
    refine W.putFinK hx hb hown (hts _ hlk) hi hst hcf hin2 (by rw [q2]; exact h6) q1 q3 (by rw [hsl]; exact k2_hasslot (q4 k hkN)) rfl rfl hdg fun H' g1 g2 g3 => ?_
    rw [hsl] at g1 ⊢
    exact kk H' _ ⟨fin H' g1 g2 g3, S.2.put g2 g3 (S.1.2.2 a _ hk).2⟩
theorem ab_putI {γ : Type} {r : Option Nat} {ci k N idx : Nat} {C : String} {T : u_T} {v : Int32} {f : Hp → Option γ} {res : γ} (X : ab_X p s m args meth c cc nL own D cA sz) (S : ab_H D cA sz h s H locs) (hF : (putI h r ci k v).bind f = some res) (fi : ab_FI ci k C T N 0) (hCI : ab_CI ci T N) (hfin : (T k).2.2.2 = false ∨ ((T k).2.2.2 = true ∧ meth.name = "<init>" ∧ (T k).1 = own))
    (hint : ab_ty ci k = .int) (hlk : Cond.fieldLink own idx (T k).1 (T k).2.1 (T k).2.2.1 ∈ wsL_law) (hdg : decode cc pc = .ok (.putfield idx, 3))
    (kk : ∀ (h' : Hp) (H1 : Heap) (locs1 : List Loc), f h' = some res → ab_H D cA sz h' s H1 locs1 → W p l e R s m args below meth c H1 locs1 cells slots Q (F0 m (pc + 3) ls rest)) : W p l e R s m args below meth c H locs cells slots Q (F0 m pc ls (.int v :: va_rf r :: rest)) := by
  obtain ⟨x, h1, hG⟩ := bind_out hF
  obtain ⟨a, h2, h3⟩ := map_out h1
  obtain ⟨rfl, hk⟩ := ab_ck_some h2
  subst h3
  refine ab_put0 (h' := stI h a k v) X S hk fi hCI hfin (by rw [hint]; rfl) (by rw [hint]; rfl) rfl rfl (fun b kd hb => ab_ct_stI b kd hb) (fun j hj => ?_) hlk hdg (fun H1 locs1 S1 => kk _ H1 locs1 hG S1)
  unfold updV
  by_cases hj2 : j = k
  · subst hj2
    rw [if_pos rfl, ab_vof, fi.2.2.2.2.2, if_pos rfl]
    simp [hpI, stI, up2]
  · rw [if_neg hj2]
    simp [ab_vof, hpI, hpD, hpR, stI, up2, hj2]
theorem ab_putZ {γ : Type} {r : Option Nat} {ci k N idx : Nat} {C : String} {T : u_T} {v : Int32} {f : Hp → Option γ} {res : γ} (X : ab_X p s m args meth c cc nL own D cA sz) (S : ab_H D cA sz h s H locs) (hF : (putZ h r ci k v).bind f = some res) (fi : ab_FI ci k C T N 0) (hCI : ab_CI ci T N) (hfin : (T k).2.2.2 = false ∨ ((T k).2.2.2 = true ∧ meth.name = "<init>" ∧ (T k).1 = own))
    (hint : ab_ty ci k = .boolean) (hlk : Cond.fieldLink own idx (T k).1 (T k).2.1 (T k).2.2.1 ∈ wsL_law) (hdg : decode cc pc = .ok (.putfield idx, 3))
    (kk : ∀ (h' : Hp) (H1 : Heap) (locs1 : List Loc), f h' = some res → ab_H D cA sz h' s H1 locs1 → W p l e R s m args below meth c H1 locs1 cells slots Q (F0 m (pc + 3) ls rest)) : W p l e R s m args below meth c H locs cells slots Q (F0 m pc ls (.int v :: va_rf r :: rest)) := by
  obtain ⟨x, h1, hG⟩ := bind_out hF
  unfold putZ at h1
  split at h1
  · rename_i hv
    obtain ⟨a, h2, h3⟩ := map_out h1
    obtain ⟨rfl, hk⟩ := ab_ck_some h2
    subst h3
    refine ab_put0 (h' := stI h a k v) X S hk fi hCI hfin (by rw [hint]; rcases hv with rfl | rfl <;> decide) (by rw [hint]; rcases hv with rfl | rfl <;> decide) rfl rfl (fun b kd hb => ab_ct_stI b kd hb) (fun j hj => ?_) hlk hdg (fun H1 locs1 S1 => kk _ H1 locs1 hG S1)
    unfold updV
    by_cases hj2 : j = k
    · subst hj2
      rw [if_pos rfl, ab_vof, fi.2.2.2.2.2, if_pos rfl]
      simp [hpI, stI, up2]
    · rw [if_neg hj2]
      simp [ab_vof, hpI, hpD, hpR, stI, up2, hj2]
  · cases h1
theorem ab_putD {γ : Type} {r : Option Nat} {ci k N idx : Nat} {C : String} {T : u_T} {v : UInt64} {f : Hp → Option γ} {res : γ} (X : ab_X p s m args meth c cc nL own D cA sz) (S : ab_H D cA sz h s H locs) (hF : (putD h r ci k v).bind f = some res) (fi : ab_FI ci k C T N 1) (hCI : ab_CI ci T N) (hfin : (T k).2.2.2 = false ∨ ((T k).2.2.2 = true ∧ meth.name = "<init>" ∧ (T k).1 = own))
    (hint : ab_ty ci k = .double) (hlk : Cond.fieldLink own idx (T k).1 (T k).2.1 (T k).2.2.1 ∈ wsL_law) (hdg : decode cc pc = .ok (.putfield idx, 3))
    (kk : ∀ (h' : Hp) (H1 : Heap) (locs1 : List Loc), f h' = some res → ab_H D cA sz h' s H1 locs1 → W p l e R s m args below meth c H1 locs1 cells slots Q (F0 m (pc + 3) ls rest)) : W p l e R s m args below meth c H locs cells slots Q (F0 m pc ls (.double v :: va_rf r :: rest)) := by
  obtain ⟨x, h1, hG⟩ := bind_out hF
  obtain ⟨a, h2, h3⟩ := map_out h1
  obtain ⟨rfl, hk⟩ := ab_ck_some h2
  subst h3
  refine ab_put0 (h' := stD h a k v) X S hk fi hCI hfin (by rw [hint]; rfl) (by rw [hint]; rfl) rfl rfl (fun b kd hb => ab_ct_stD b kd hb) (fun j hj => ?_) hlk hdg (fun H1 locs1 S1 => kk _ H1 locs1 hG S1)
  unfold updV
  by_cases hj2 : j = k
  · subst hj2
    rw [if_pos rfl, ab_vof, fi.2.2.2.2.2, if_neg (by decide), if_pos rfl]
    simp [hpD, stD, up2]
  · rw [if_neg hj2]
    simp [ab_vof, hpI, hpD, hpR, stD, up2, hj2]
theorem ab_putR {γ : Type} {r : Option Nat} {ci k N idx : Nat} {C : String} {T : u_T} {v : Option Nat} {f : Hp → Option γ} {res : γ} (X : ab_X p s m args meth c cc nL own D cA sz) (S : ab_H D cA sz h s H locs) (hF : (putR h r ci k v).bind f = some res) (fi : ab_FI ci k C T N 2) (hCI : ab_CI ci T N) (hfin : (T k).2.2.2 = false ∨ ((T k).2.2.2 = true ∧ meth.name = "<init>" ∧ (T k).1 = own))
    (hn : ∀ q : Option Nat, narrow (ab_ty ci k) (va_rf q) = va_rf q) (hfit : ∀ q : Option Nat, fits (ab_ty ci k) (va_rf q) = true) (hlk : Cond.fieldLink own idx (T k).1 (T k).2.1 (T k).2.2.1 ∈ wsL_law) (hdg : decode cc pc = .ok (.putfield idx, 3))
    (kk : ∀ (h' : Hp) (H1 : Heap) (locs1 : List Loc), f h' = some res → ab_H D cA sz h' s H1 locs1 → W p l e R s m args below meth c H1 locs1 cells slots Q (F0 m (pc + 3) ls rest)) : W p l e R s m args below meth c H locs cells slots Q (F0 m pc ls (va_rf v :: va_rf r :: rest)) := by
  obtain ⟨x, h1, hG⟩ := bind_out hF
  obtain ⟨a, h2, h3⟩ := map_out h1
  obtain ⟨rfl, hk⟩ := ab_ck_some h2
  subst h3
  refine ab_put0 (h' := stR h a k v) X S hk fi hCI hfin (hn v) (hfit v) rfl rfl (fun b kd hb => ab_ct_stR b kd hb) (fun j hj => ?_) hlk hdg (fun H1 locs1 S1 => kk _ H1 locs1 hG S1)
  unfold updV
  by_cases hj2 : j = k
  · subst hj2
    rw [if_pos rfl, ab_vof, fi.2.2.2.2.2, if_neg (by decide), if_neg (by decide)]
    simp [hpR, stR, up2]
  · rw [if_neg hj2]
    simp [ab_vof, hpI, hpD, hpR, stR, up2, hj2]
end ABW
section ABA
variable {p : Program} {l : Launch} {e : Env} {R : Room} {s : State} {m : MethodId} {args : Array Value} {below : List Frame} {meth : Method} {c : Code} {H : Heap} {locs : List Loc} {cells slots : Nat} {Q : State → Prop}
variable {cc : ByteArray} {pc : Nat} {ls : Array Slot} {rest : List Value} {D : va_G} {cA : Nat → ClassId} {sz nL : Nat} {own : String} {h : Hp}
theorem ab_aldI {γ : Type} {r : Option Nat} {i : Int32} {f : Int32 → Option γ} {res : γ} (X : ab_X p s m args meth c cc nL own D cA sz) (S : ab_H D cA sz h s H locs) (hF : (aldI h r 11 i).bind f = some res) (hdg : decode cc pc = .ok (.iaload, 1))
    (kk : ∀ x : Int32, f x = some res → W p l e R s m args below meth c H locs cells slots Q (F0 m (pc + 1) ls (.int x :: rest))) : W p l e R s m args below meth c H locs cells slots Q (F0 m pc ls (.int i :: va_rf r :: rest)) := by
  obtain ⟨x, h1, hG⟩ := bind_out hF
  obtain ⟨a, h2, h3⟩ := map_out h1
  obtain ⟨rfl, n, hk, hin⟩ := ab_ar_some h2
  obtain ⟨hx, hb, hml, hown, hts, hT, -, -⟩ := X
  subst h3
  exact va_iald hx hb hT.1 (S.1.one hk) 0 1 (f := hpI h a) (n := n) (cA := cA 11) (by simp [ab_ct, ab_ac]) rfl hin hdg (kk _ hG)
theorem ab_aldZ {γ : Type} {r : Option Nat} {i : Int32} {f : Int32 → Option γ} {res : γ} (X : ab_X p s m args meth c cc nL own D cA sz) (S : ab_H D cA sz h s H locs) (hF : (aldI h r 12 i).bind f = some res) (hdg : decode cc pc = .ok (.baload, 1))
    (kk : ∀ x : Int32, f x = some res → W p l e R s m args below meth c H locs cells slots Q (F0 m (pc + 1) ls (.int x :: rest))) : W p l e R s m args below meth c H locs cells slots Q (F0 m pc ls (.int i :: va_rf r :: rest)) := by
  obtain ⟨x, h1, hG⟩ := bind_out hF
  obtain ⟨a, h2, h3⟩ := map_out h1
  obtain ⟨rfl, n, hk, hin⟩ := ab_ar_some h2
  obtain ⟨hx, hb, hml, hown, hts, hT, -, -⟩ := X
  subst h3
  exact va_zald hx hb hT.1 (S.1.one hk) 0 2 (f := hpI h a) (n := n) (cA := cA 12) (by simp [ab_ct, ab_ac]) rfl hin hdg (kk _ hG)
theorem ab_aldD {γ : Type} {r : Option Nat} {i : Int32} {f : UInt64 → Option γ} {res : γ} (X : ab_X p s m args meth c cc nL own D cA sz) (S : ab_H D cA sz h s H locs) (hF : (aldD h r i).bind f = some res) (hdg : decode cc pc = .ok (.daload, 1))
    (kk : ∀ x : UInt64, f x = some res → W p l e R s m args below meth c H locs cells slots Q (F0 m (pc + 1) ls (.double x :: rest))) : W p l e R s m args below meth c H locs cells slots Q (F0 m pc ls (.int i :: va_rf r :: rest)) := by
  obtain ⟨x, h1, hG⟩ := bind_out hF
  obtain ⟨a, h2, h3⟩ := map_out h1
  obtain ⟨rfl, n, hk, hin⟩ := ab_ar_some h2
  obtain ⟨hx, hb, hml, hown, hts, hT, -, -⟩ := X
  subst h3
  exact va_dald hx hb hT.1 (S.1.one hk) 0 0 (f := hpD h a) (n := n) (cA := cA 10) (by simp [ab_ct, ab_ac]) rfl hin hdg (kk _ hG)
theorem ab_aldR {γ : Type} {r : Option Nat} {t : Nat} {C : String} {i : Int32} {f : Option Nat → Option γ} {res : γ} (X : ab_X p s m args meth c cc nL own D cA sz) (S : ab_H D cA sz h s H locs) (hF : (aldR h r t i).bind f = some res) (ht : (ab_ts cA)[t - 10]? = some (cA t, .object C)) (ht2 : 12 < t) (hdg : decode cc pc = .ok (.aaload, 1))
    (kk : ∀ x : Option Nat, f x = some res → W p l e R s m args below meth c H locs cells slots Q (F0 m (pc + 1) ls (va_rf x :: rest))) : W p l e R s m args below meth c H locs cells slots Q (F0 m pc ls (.int i :: va_rf r :: rest)) := by
  obtain ⟨x, h1, hG⟩ := bind_out hF
  obtain ⟨a, h2, h3⟩ := map_out h1
  obtain ⟨rfl, n, hk, hin⟩ := ab_ar_some h2
  obtain ⟨hx, hb, hml, hown, hts, hT, -, -⟩ := X
  subst h3
  exact va_aldq hx hb hT.1 (S.1.one hk) 0 (t - 10) (f := hpR h a) (n := n) (cA := cA t) (by simp [ab_ct, ab_ac, show ¬ t < 10 by omega, show t ≠ 10 by omega, show t ≠ 11 by omega, show t ≠ 12 by omega]) ht hin hdg (kk _ hG)
theorem ab_alen {γ : Type} {r : Option Nat} {t : Nat} {ty : FieldType} {f : Int32 → Option γ} {res : γ} (X : ab_X p s m args meth c cc nL own D cA sz) (S : ab_H D cA sz h s H locs) (hF : (alen h r t).bind f = some res) (ht : (ab_ts cA)[t - 10]? = some (cA t, ty)) (ht2 : 10 ≤ t) (hdg : decode cc pc = .ok (.arraylength, 1))
    (kk : ∀ x : Int32, f x = some res → W p l e R s m args below meth c H locs cells slots Q (F0 m (pc + 1) ls (.int x :: rest))) : W p l e R s m args below meth c H locs cells slots Q (F0 m pc ls (va_rf r :: rest)) := by
  obtain ⟨x, h1, hG⟩ := bind_out hF
  obtain ⟨hx, hb, hml, hown, hts, hT, -, -⟩ := X
  cases r with
  | none => cases h1
  | some a =>
    obtain ⟨kd, hk, h2⟩ := bind_out (show (hpK h a).bind _ = some x from h1)
    split at h2
    · rename_i hkd
      cases h2
      obtain ⟨t1, n⟩ := kd
      cases hkd
      exact va_alen hx hb hT.1 (S.1.one hk) 0 (t1 - 10) (cA := cA t1) (x := ab_ac h a (t1, n)) (by simp [ab_ct, show ¬ t1 < 10 by omega]) ht rfl hdg (kk _ hG)
    · cases h2
theorem ab_astI {γ : Type} {r : Option Nat} {i v : Int32} {f : Hp → Option γ} {res : γ} (X : ab_X p s m args meth c cc nL own D cA sz) (S : ab_H D cA sz h s H locs) (hF : (astI h r i v).bind f = some res) (hdg : decode cc pc = .ok (.iastore, 1))
    (kk : ∀ (h' : Hp) (H1 : Heap) (locs1 : List Loc), f h' = some res → ab_H D cA sz h' s H1 locs1 → W p l e R s m args below meth c H1 locs1 cells slots Q (F0 m (pc + 1) ls rest)) : W p l e R s m args below meth c H locs cells slots Q (F0 m pc ls (.int v :: .int i :: va_rf r :: rest)) := by
  obtain ⟨x, h1, hG⟩ := bind_out hF
  obtain ⟨a, h2, h3⟩ := map_out h1
  obtain ⟨rfl, n, hk, hin⟩ := ab_ar_some h2
  obtain ⟨hx, hb, hml, hown, hts, hT, -, -⟩ := X
  subst h3
  have hat : H[a]? = some (vp_cell (cA 11) (n, .inl (hpI h a))) := by have := (S.1.2.2 a _ hk).1; simp [ab_ct, ab_ac] at this; exact this
  refine W.iast hx hb hat ((hT.1.2 1 _ rfl).1 n (fun j => .int (hpI h a j))) (fun q => by cases q) (by show ¬ (i < 0 ∨ (arrV _ _ _).slots.size ≤ _); rw [arrV_size]; exact hin) rfl rfl hdg fun H1 g z oq => ?_
  refine kk _ H1 _ hG ⟨S.1.set hk rfl rfl (fun b kd hb => ab_ct_stI b kd hb) ?_ z oq, S.2.put z oq (S.1.2.2 a _ hk).2⟩
  show va_at D vwCl (a, ab_ct cA (stI h a i.toNatClampNeg v) a (11, n)) H1
  have : ab_ct cA (stI h a i.toNatClampNeg v) a (11, n) = .inl (cA 11, n, .inl (hpI (stI h a i.toNatClampNeg v) a)) := by simp [ab_ct, ab_ac]
  rw [this]
  show H1[a]? = some (vp_cell _ _)
  rw [g, vp_cell_i, vp_cell_i, arrV_store]
  congr 2
  funext q
  by_cases hq : q = i.toNatClampNeg
  · subst hq
    simp [updV, hpI, stI, up2]
  · simp [updV, hpI, stI, up2, hq]
theorem ab_astZ {γ : Type} {r : Option Nat} {i v : Int32} {f : Hp → Option γ} {res : γ} (X : ab_X p s m args meth c cc nL own D cA sz) (S : ab_H D cA sz h s H locs) (hF : (astZ h r i v).bind f = some res) (hdg : decode cc pc = .ok (.bastore, 1))
    (kk : ∀ (h' : Hp) (H1 : Heap) (locs1 : List Loc), f h' = some res → ab_H D cA sz h' s H1 locs1 → W p l e R s m args below meth c H1 locs1 cells slots Q (F0 m (pc + 1) ls rest)) : W p l e R s m args below meth c H locs cells slots Q (F0 m pc ls (.int v :: .int i :: va_rf r :: rest)) := by
  obtain ⟨x, h1, hG⟩ := bind_out hF
  obtain ⟨a, h2, h3⟩ := map_out h1
  obtain ⟨rfl, n, hk, hin⟩ := ab_ar_some h2
  obtain ⟨hx, hb, hml, hown, hts, hT, -, -⟩ := X
  subst h3
  have hat : H[a]? = some (vp_cell (cA 12) (n, .inl (hpI h a))) := by have := (S.1.2.2 a _ hk).1; simp [ab_ct, ab_ac] at this; exact this
  refine W.zast hx hb hat ((hT.1.2 2 _ rfl).1 n (fun j => .int (hpI h a j))) (fun q => by cases q) (by show ¬ (i < 0 ∨ (arrV _ _ _).slots.size ≤ _); rw [arrV_size]; exact hin) rfl rfl hdg fun H1 g z oq => ?_
  refine kk _ H1 _ hG ⟨S.1.set hk rfl rfl (fun b kd hb => ab_ct_stI b kd hb) ?_ z oq, S.2.put z oq (S.1.2.2 a _ hk).2⟩
  show va_at D vwCl (a, ab_ct cA (stI h a i.toNatClampNeg (vp_nar .boolean v)) a (12, n)) H1
  have : ab_ct cA (stI h a i.toNatClampNeg (vp_nar .boolean v)) a (12, n) = .inl (cA 12, n, .inl (hpI (stI h a i.toNatClampNeg (vp_nar .boolean v)) a)) := by simp [ab_ct, ab_ac]
  rw [this]
  show H1[a]? = some (vp_cell _ _)
  rw [g, vp_cell_i, vp_cell_i, arrV_store]
  congr 2
  funext q
  by_cases hq : q = i.toNatClampNeg
  · subst hq
    simp [updV, hpI, stI, up2, vp_nar]
    try rfl
  · simp [updV, hpI, stI, up2, hq]
theorem ab_astD {γ : Type} {r : Option Nat} {i : Int32} {v : UInt64} {f : Hp → Option γ} {res : γ} (X : ab_X p s m args meth c cc nL own D cA sz) (S : ab_H D cA sz h s H locs) (hF : (astD h r i v).bind f = some res) (hdg : decode cc pc = .ok (.dastore, 1))
    (kk : ∀ (h' : Hp) (H1 : Heap) (locs1 : List Loc), f h' = some res → ab_H D cA sz h' s H1 locs1 → W p l e R s m args below meth c H1 locs1 cells slots Q (F0 m (pc + 1) ls rest)) : W p l e R s m args below meth c H locs cells slots Q (F0 m pc ls (.double v :: .int i :: va_rf r :: rest)) := by
  obtain ⟨x, h1, hG⟩ := bind_out hF
  obtain ⟨a, h2, h3⟩ := map_out h1
  obtain ⟨rfl, n, hk, hin⟩ := ab_ar_some h2
  obtain ⟨hx, hb, hml, hown, hts, hT, -, -⟩ := X
  subst h3
  have hat : H[a]? = some (vp_cell (cA 10) (n, .inr (.inr (.inr (.inl (hpD h a)))))) := by have := (S.1.2.2 a _ hk).1; simp [ab_ct, ab_ac] at this; exact this
  refine W.dast hx hb hat ((hT.1.2 0 _ rfl).1 n (fun j => .double (hpD h a j))) (fun q => by cases q) (by show ¬ (i < 0 ∨ (arrV _ _ _).slots.size ≤ _); rw [arrV_size]; exact hin) rfl rfl hdg fun H1 g z oq => ?_
  refine kk _ H1 _ hG ⟨S.1.set hk rfl rfl (fun b kd hb => ab_ct_stD b kd hb) ?_ z oq, S.2.put z oq (S.1.2.2 a _ hk).2⟩
  show va_at D vwCl (a, ab_ct cA (stD h a i.toNatClampNeg v) a (10, n)) H1
  have : ab_ct cA (stD h a i.toNatClampNeg v) a (10, n) = .inl (cA 10, n, .inr (.inr (.inr (.inl (hpD (stD h a i.toNatClampNeg v) a))))) := by simp [ab_ct, ab_ac]
  rw [this]
  show H1[a]? = some (vp_cell _ _)
  rw [g, vp_cell_d, vp_cell_d, arrV_store]
  congr 2
  funext q
  by_cases hq : q = i.toNatClampNeg
  · subst hq
    simp [updV, hpD, stD, up2]
  · simp [updV, hpD, stD, up2, hq]
end ABA
