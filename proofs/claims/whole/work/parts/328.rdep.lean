/-! ===== only the variables' own states count ===== -/
def Dp (F : FT) (n : Nat) : Prop := ∀ t x y, (∀ i, i < n → x i = y i) → ∀ i, i < n → F t x i = F t y i
theorem dp_fR {h : Hp} {m l n ns N : Nat} (X : SX h m l n ns N) : Dp (fR h m l N) n := fun _ _ _ hxy => fR_dep X hxy
theorem yA_c {F : FT} {nar : Int32} {n : Nat} {t h : UInt64} {x y : Nat → UInt64} (D : Dp F n) (hx : ∀ i, i < n → x i = y i) : ∀ i, i < n → yA F nar t h x i = yA F nar t h y i := fun i hi => mvV_congr (hx i hi) (D _ _ _ hx i hi)
theorem kA_c {F : FT} {nar : Int32} {n : Nat} {t h : UInt64} {x y : Nat → UInt64} (D : Dp F n) (hx : ∀ i, i < n → x i = y i) : ∀ i, i < n → kA F nar t h x i = kA F nar t h y i := D _ _ _ (yA_c D hx)
theorem zM_c {F : FT} {nar : Int32} {n : Nat} {t h : UInt64} {x y : Nat → UInt64} (D : Dp F n) (hx : ∀ i, i < n → x i = y i) : ∀ i, i < n → zM F nar t h x i = zM F nar t h y i := fun i hi => mvV_congr (hx i hi) (kA_c D hx i hi)
theorem yT_c {F : FT} {nar : Int32} {n : Nat} {t h : UInt64} {x y : Nat → UInt64} (D : Dp F n) (hx : ∀ i, i < n → x i = y i) : ∀ i, i < n → yT F nar t h x i = yT F nar t h y i := fun i hi => mvV_congr (hx i hi) (s3a_congr (D _ _ _ hx i hi) (kA_c D hx i hi))
theorem k3T_c {F : FT} {nar : Int32} {n : Nat} {t h : UInt64} {x y : Nat → UInt64} (D : Dp F n) (hx : ∀ i, i < n → x i = y i) : ∀ i, i < n → k3T F nar t h x i = k3T F nar t h y i := D _ _ _ (yT_c D hx)
theorem zT_c {F : FT} {nar : Int32} {n : Nat} {t h : UInt64} {x y : Nat → UInt64} (D : Dp F n) (hx : ∀ i, i < n → x i = y i) : ∀ i, i < n → zT F nar t h x i = zT F nar t h y i := fun i hi => mvV_congr (hx i hi) (s3b_congr (D _ _ _ hx i hi) (kA_c D hx i hi) (k3T_c D hx i hi))
theorem yF_c {F : FT} {nar : Int32} {n : Nat} {t h : UInt64} {x y : Nat → UInt64} (D : Dp F n) (hx : ∀ i, i < n → x i = y i) : ∀ i, i < n → yF F nar t h x i = yF F nar t h y i := fun i hi => mvV_congr (hx i hi) (kA_c D hx i hi)
theorem k3F_c {F : FT} {nar : Int32} {n : Nat} {t h : UInt64} {x y : Nat → UInt64} (D : Dp F n) (hx : ∀ i, i < n → x i = y i) : ∀ i, i < n → k3F F nar t h x i = k3F F nar t h y i := D _ _ _ (yF_c D hx)
theorem y3F_c {F : FT} {nar : Int32} {n : Nat} {t h : UInt64} {x y : Nat → UInt64} (D : Dp F n) (hx : ∀ i, i < n → x i = y i) : ∀ i, i < n → y3F F nar t h x i = y3F F nar t h y i := fun i hi => mvV_congr (hx i hi) (k3F_c D hx i hi)
theorem k4F_c {F : FT} {nar : Int32} {n : Nat} {t h : UInt64} {x y : Nat → UInt64} (D : Dp F n) (hx : ∀ i, i < n → x i = y i) : ∀ i, i < n → k4F F nar t h x i = k4F F nar t h y i := D _ _ _ (y3F_c D hx)
theorem zF_c {F : FT} {nar : Int32} {n : Nat} {t h : UInt64} {x y : Nat → UInt64} (D : Dp F n) (hx : ∀ i, i < n → x i = y i) : ∀ i, i < n → zF F nar t h x i = zF F nar t h y i := fun i hi => mvV_congr (hx i hi) (s4_congr (D _ _ _ hx i hi) (kA_c D hx i hi) (k3F_c D hx i hi) (k4F_c D hx i hi))
theorem yP_c {F : FT} {nar : Int32} {n : Nat} {t h : UInt64} {x y : Nat → UInt64} (D : Dp F n) (hx : ∀ i, i < n → x i = y i) : ∀ i, i < n → yP F nar t h x i = yP F nar t h y i := fun i hi => mvV_congr (hx i hi) (kA_c D hx i hi)
theorem k3P_c {F : FT} {nar : Int32} {n : Nat} {t h : UInt64} {x y : Nat → UInt64} (D : Dp F n) (hx : ∀ i, i < n → x i = y i) : ∀ i, i < n → k3P F nar t h x i = k3P F nar t h y i := D _ _ _ (yP_c D hx)
theorem zP_c {F : FT} {nar : Int32} {n : Nat} {t h : UInt64} {x y : Nat → UInt64} (D : Dp F n) (hx : ∀ i, i < n → x i = y i) : ∀ i, i < n → zP F nar t h x i = zP F nar t h y i := fun i hi => mvV_congr (hx i hi) (spz_congr (D _ _ _ hx i hi) (kA_c D hx i hi) (k3P_c D hx i hi))
theorem k4P_c {F : FT} {nar : Int32} {n : Nat} {t h : UInt64} {x y : Nat → UInt64} (D : Dp F n) (hx : ∀ i, i < n → x i = y i) : ∀ i, i < n → k4P F nar t h x i = k4P F nar t h y i := D _ _ _ (zP_c D hx)
theorem eP_c {F : FT} {nar : Int32} {n : Nat} {t h : UInt64} {x y : Nat → UInt64} (D : Dp F n) (hx : ∀ i, i < n → x i = y i) : ∀ i, i < n → eP F nar t h x i = eP F nar t h y i := fun i hi => by
  unfold eP
  rw [spe_congr (D _ _ _ hx i hi) (kA_c D hx i hi) (k3P_c D hx i hi) (k4P_c D hx i hi)]
theorem zB_c {F : FT} {nar : Int32} {n : Nat} {t h : UInt64} {x y : Nat → UInt64} (D : Dp F n) (hx : ∀ i, i < n → x i = y i) : ∀ j i, i < n → zB F nar t h x j i = zB F nar t h y j i := by
  intro j
  induction j with
  | zero => exact fun i hi => mvV_congr (hx i hi) (D _ _ _ hx i hi)
  | succ j ih => exact fun i hi => mvV_congr (hx i hi) (D _ _ _ ih i hi)
theorem yL_c {F : FT} {nar : Int32} {n : Nat} {t h : UInt64} {x y : Nat → UInt64} (D : Dp F n) (hx : ∀ i, i < n → x i = y i) : ∀ i, i < n → yL F nar n t h x i = yL F nar n t h y i := fun i hi => by
  unfold yL
  rw [hx i hi, mvV_congr (hx i hi) (D _ _ _ hx i hi)]
theorem k2L_c {F : FT} {nar : Int32} {n : Nat} {t h : UInt64} {x y : Nat → UInt64} (D : Dp F n) (hx : ∀ i, i < n → x i = y i) : ∀ i, i < n → k2L F nar n t h x i = k2L F nar n t h y i := D _ _ _ (yL_c D hx)
theorem z1L_c {F : FT} {nar : Int32} {n : Nat} {t h : UInt64} {x y : Nat → UInt64} (D : Dp F n) (hx : ∀ i, i < n → x i = y i) : ∀ i, i < n → z1L F nar n t h x i = z1L F nar n t h y i := fun i hi => by
  unfold z1L
  rw [mvV_congr (hx i hi) (k2L_c D hx i hi), yL_c D hx i hi]
theorem k3L_c {F : FT} {nar : Int32} {n : Nat} {t h : UInt64} {x y : Nat → UInt64} (D : Dp F n) (hx : ∀ i, i < n → x i = y i) : ∀ i, i < n → k3L F nar n t h x i = k3L F nar n t h y i := D _ _ _ (z1L_c D hx)
theorem zL_c {F : FT} {nar : Int32} {n : Nat} {t h : UInt64} {x y : Nat → UInt64} (D : Dp F n) (hx : ∀ i, i < n → x i = y i) : ∀ i, i < n → zL F nar n t h x i = zL F nar n t h y i := fun i hi => by
  unfold zL
  rw [z1L_c D hx i hi, mvV_congr (yL_c D hx i hi) (k3L_c D hx i hi)]
theorem kS_c {F : FT} {nar : Int32} {n M j : Nat} {t h : UInt64} {x y : Nat → UInt64} (D : Dp F n) (hx : ∀ i, i < n → x i = y i) : ∀ i, i < n → kS F nar n M t h x j i = kS F nar n M t h y j i := by
  unfold kS
  split
  · exact D _ _ _ hx
  · exact kA_c D hx
  · exact kA_c D hx
  · exact k3T_c D hx
  · exact kA_c D hx
  · exact k3F_c D hx
  · exact k4F_c D hx
  · exact kA_c D hx
  · exact k3P_c D hx
  · exact k4P_c D hx
  · exact D _ _ _ (zB_c D hx 5)
  · exact k2L_c D hx
  · exact k3L_c D hx
  · exact D _ _ _ hx
theorem zS_c {F : FT} {nar : Int32} {n M : Nat} {t h : UInt64} {x y : Nat → UInt64} (D : Dp F n) (hx : ∀ i, i < n → x i = y i) : ∀ i, i < n → zS F nar n M t h x i = zS F nar n M t h y i := by
  unfold zS
  split
  · exact fun i hi => mvV_congr (hx i hi) (D _ _ _ hx i hi)
  · exact zM_c D hx
  · exact zT_c D hx
  · exact zF_c D hx
  · exact zP_c D hx
  · exact zB_c D hx 6
  · exact zL_c D hx
theorem gS_c {F : FT} {nar : Int32} {n M : Nat} {t h : UInt64} {x y : Nat → UInt64} (D : Dp F n) (hx : ∀ i, i < n → x i = y i) : gS F nar n M t h x = gS F nar n M t h y := by
  unfold gS
  rw [gpS_congr (zB_c D hx 6) (zB_c D hx 5)]
theorem tame_c {F : FT} {nar : Int32} {n M : Nat} {t h : UInt64} {x y : Nat → UInt64} (D : Dp F n) (hx : ∀ i, i < n → x i = y i) (T : Tame F nar n M t h x) : Tame F nar n M t h y := by
  obtain ⟨a, b, c, d, e⟩ := T
  refine ⟨fun j hj i hi => by rw [← kS_c D hx i hi]; exact a j hj i hi, fun q j hj i hi => ?_, fun q i hi => by rw [← eP_c D hx i hi]; exact c q i hi, fun i hi => by rw [← zS_c D hx i hi]; exact d i hi, e⟩
  rw [← D _ _ _ (zB_c D hx j) i hi]
  exact b q j hj i hi
/-- made, with the states told by any function that is right on the variables -/
theorem r_made' {h : Hp} {m l n ns N M : Nat} {t hh : UInt64} {x : Nat → UInt64} (X : SX h m l n ns N) (hM : M ≤ 6) (ft : Nm t) (fh : HB hh) (hxx : ∀ i, i < n → hpD h (m + 45) i = x i) (hx : ∀ i, i < n → Cv (x i)) :
    ∃ w h', f_X9_made m (nI l) (nI M) t hh h = some (w, h') ∧ Scr h h' m ∧ (w = 0 ∨ w = 1) ∧ (w = 0 ↔ Tame (fR h m l N) (hpI h (m + 2) l) n M t hh x) ∧ (∀ j, j < sgN M → ∀ i, i < n → hpD h' (m + 50 + j) i = kS (fR h m l N) (hpI h (m + 2) l) n M t hh x j i) ∧ (∀ i, i < n → hpD h' (m + 47) i = zS (fR h m l N) (hpI h (m + 2) l) n M t hh x i) ∧ (M = 4 → ∀ i, i < n → hpD h' (m + 49) i = eP (fR h m l N) (hpI h (m + 2) l) t hh x i) ∧ hpI h' m 61 = nI (gS (fR h m l N) (hpI h (m + 2) l) n M t hh x) ∧ (hpI h' m 60 = 0 ∨ hpI h' m 60 = 1) := by
  have D := dp_fR X
  obtain ⟨w, h1, e1, S1, cw, iw, k1, z1, ee1, g1, b1⟩ := r_made (t := t) (hh := hh) (M := M) X hM ft fh (fun i hi => by rw [hxx i hi]; exact hx i hi)
  refine ⟨w, h1, e1, S1, cw, ?_, fun j hj i hi => by rw [k1 j hj i hi]; exact kS_c D hxx i hi, fun i hi => by rw [z1 i hi]; exact zS_c D hxx i hi, fun q i hi => by rw [ee1 q i hi]; exact eP_c D hxx i hi, by rw [g1, gS_c D hxx], b1⟩
  rw [iw]
  exact ⟨fun T => tame_c D hxx T, fun T => tame_c D (fun i hi => (hxx i hi).symm) T⟩
