/-! ===== the reference: its rows lie behind it, one by one ===== -/
def mR (m : Nat) : Nat → Option Nat
  | 0 => some (m + 1)
  | 1 => some (m + 2)
  | 2 => some (m + 3)
  | 3 => some (m + 4)
  | 4 => some (m + 5)
  | 5 => some (m + 6)
  | 6 => some (m + 7)
  | 7 => some (m + 8)
  | 8 => some (m + 9)
  | 10 => some (m + 10)
  | 11 => some (m + 11)
  | 12 => some (m + 12)
  | 13 => some (m + 13)
  | 15 => some (m + 14)
  | 16 => some (m + 15)
  | 17 => some (m + 16)
  | 18 => some (m + 17)
  | 19 => some (m + 18)
  | 20 => some (m + 19)
  | 21 => some (m + 20)
  | 22 => some (m + 21)
  | 23 => some (m + 22)
  | 24 => some (m + 23)
  | 25 => some (m + 24)
  | 26 => some (m + 25)
  | 27 => some (m + 26)
  | 28 => some (m + 27)
  | 29 => some (m + 28)
  | 30 => some (m + 29)
  | 31 => some (m + 30)
  | 32 => some (m + 31)
  | 33 => some (m + 32)
  | 34 => some (m + 33)
  | 35 => some (m + 34)
  | 36 => some (m + 35)
  | 37 => some (m + 36)
  | 38 => some (m + 37)
  | 39 => some (m + 38)
  | 40 => some (m + 39)
  | 41 => some (m + 40)
  | 42 => some (m + 41)
  | 43 => some (m + 42)
  | 44 => some (m + 43)
  | 46 => some (m + 44)
  | 47 => some (m + 45)
  | 48 => some (m + 46)
  | 49 => some (m + 47)
  | 50 => some (m + 48)
  | 51 => some (m + 49)
  | 52 => some (m + 50)
  | 53 => some (m + 51)
  | 54 => some (m + 52)
  | 55 => some (m + 53)
  | 56 => some (m + 54)
  | 57 => some (m + 55)
  | 58 => some (m + 56)
  | 59 => some (m + 57)
  | _ => none
def mKd : Nat → Nat × Nat
  | 1 => (11, 8)
  | 2 => (11, 8)
  | 3 => (11, 8)
  | 4 => (11, 48)
  | 5 => (11, 384)
  | 6 => (11, 384)
  | 7 => (11, 384)
  | 8 => (11, 384)
  | 9 => (10, 384)
  | 10 => (11, 8)
  | 11 => (11, 8)
  | 12 => (10, 128)
  | 13 => (10, 128)
  | 14 => (11, 9)
  | 15 => (11, 9)
  | 16 => (11, 9)
  | 17 => (11, 9)
  | 18 => (11, 9)
  | 19 => (11, 9)
  | 20 => (11, 9)
  | 21 => (12, 9)
  | 22 => (12, 9)
  | 23 => (12, 4)
  | 24 => (10, 9)
  | 25 => (10, 9)
  | 26 => (10, 9)
  | 27 => (10, 9)
  | 28 => (10, 9)
  | 29 => (10, 54)
  | 30 => (11, 36)
  | 31 => (11, 36)
  | 32 => (11, 36)
  | 33 => (11, 36)
  | 34 => (11, 576)
  | 35 => (10, 576)
  | 36 => (11, 9)
  | 37 => (10, 9)
  | 38 => (10, 9)
  | 39 => (10, 54)
  | 40 => (10, 54)
  | 41 => (10, 54)
  | 42 => (10, 54)
  | 43 => (10, 270)
  | 44 => (10, 48)
  | 45 => (10, 6)
  | 46 => (10, 6)
  | 47 => (10, 6)
  | 48 => (10, 6)
  | 49 => (10, 6)
  | 50 => (10, 6)
  | 51 => (10, 6)
  | 52 => (10, 6)
  | 53 => (10, 6)
  | 54 => (10, 6)
  | 55 => (10, 6)
  | 56 => (10, 4)
  | 57 => (12, 4)
  | _ => (9, 0)
/-- the reference stands at m -/
def RO (h : Hp) (m : Nat) : Prop := (∀ k, hpR h m k = mR m k) ∧ ∀ q, q < 58 → hpK h (m + q) = some (mKd q)
theorem ro_K {h : Hp} {m : Nat} (H : RO h m) : hpK h m = some (9, 0) := H.2 0 (by decide)
theorem ro_g0 {h : Hp} {m : Nat} (H : RO h m) : getR h (some m) 9 0 = some (some (m + 1)) := by rw [getR_ok (ro_K H), H.1]; rfl
theorem ro_k0 {h : Hp} {m : Nat} (H : RO h m) : hpK h (m + 1) = some (11, 8) := H.2 1 (by decide)
theorem ro_a0 {h : Hp} {m i : Nat} (H : RO h m) (hi : i < 8) : aldI h (some (m + 1)) 11 (nI i) = some (hpI h (m + 1) i) := by rw [aldI_ok (ro_k0 H) (ni_in hi (by decide)), ni_cl (by omega)]
theorem ro_s0 {h : Hp} {m i : Nat} {v : Int32} (H : RO h m) (hi : i < 8) : astI h (some (m + 1)) (nI i) v = some (stI h (m + 1) i v) := by rw [astI_ok (ro_k0 H) (ni_in hi (by decide)), ni_cl (by omega)]
theorem ro_g1 {h : Hp} {m : Nat} (H : RO h m) : getR h (some m) 9 1 = some (some (m + 2)) := by rw [getR_ok (ro_K H), H.1]; rfl
theorem ro_k1 {h : Hp} {m : Nat} (H : RO h m) : hpK h (m + 2) = some (11, 8) := H.2 2 (by decide)
theorem ro_a1 {h : Hp} {m i : Nat} (H : RO h m) (hi : i < 8) : aldI h (some (m + 2)) 11 (nI i) = some (hpI h (m + 2) i) := by rw [aldI_ok (ro_k1 H) (ni_in hi (by decide)), ni_cl (by omega)]
theorem ro_s1 {h : Hp} {m i : Nat} {v : Int32} (H : RO h m) (hi : i < 8) : astI h (some (m + 2)) (nI i) v = some (stI h (m + 2) i v) := by rw [astI_ok (ro_k1 H) (ni_in hi (by decide)), ni_cl (by omega)]
theorem ro_g2 {h : Hp} {m : Nat} (H : RO h m) : getR h (some m) 9 2 = some (some (m + 3)) := by rw [getR_ok (ro_K H), H.1]; rfl
theorem ro_k2 {h : Hp} {m : Nat} (H : RO h m) : hpK h (m + 3) = some (11, 8) := H.2 3 (by decide)
theorem ro_a2 {h : Hp} {m i : Nat} (H : RO h m) (hi : i < 8) : aldI h (some (m + 3)) 11 (nI i) = some (hpI h (m + 3) i) := by rw [aldI_ok (ro_k2 H) (ni_in hi (by decide)), ni_cl (by omega)]
theorem ro_s2 {h : Hp} {m i : Nat} {v : Int32} (H : RO h m) (hi : i < 8) : astI h (some (m + 3)) (nI i) v = some (stI h (m + 3) i v) := by rw [astI_ok (ro_k2 H) (ni_in hi (by decide)), ni_cl (by omega)]
theorem ro_g3 {h : Hp} {m : Nat} (H : RO h m) : getR h (some m) 9 3 = some (some (m + 4)) := by rw [getR_ok (ro_K H), H.1]; rfl
theorem ro_k3 {h : Hp} {m : Nat} (H : RO h m) : hpK h (m + 4) = some (11, 48) := H.2 4 (by decide)
theorem ro_a3 {h : Hp} {m i : Nat} (H : RO h m) (hi : i < 48) : aldI h (some (m + 4)) 11 (nI i) = some (hpI h (m + 4) i) := by rw [aldI_ok (ro_k3 H) (ni_in hi (by decide)), ni_cl (by omega)]
theorem ro_s3 {h : Hp} {m i : Nat} {v : Int32} (H : RO h m) (hi : i < 48) : astI h (some (m + 4)) (nI i) v = some (stI h (m + 4) i v) := by rw [astI_ok (ro_k3 H) (ni_in hi (by decide)), ni_cl (by omega)]
theorem ro_g4 {h : Hp} {m : Nat} (H : RO h m) : getR h (some m) 9 4 = some (some (m + 5)) := by rw [getR_ok (ro_K H), H.1]; rfl
theorem ro_k4 {h : Hp} {m : Nat} (H : RO h m) : hpK h (m + 5) = some (11, 384) := H.2 5 (by decide)
theorem ro_a4 {h : Hp} {m i : Nat} (H : RO h m) (hi : i < 384) : aldI h (some (m + 5)) 11 (nI i) = some (hpI h (m + 5) i) := by rw [aldI_ok (ro_k4 H) (ni_in hi (by decide)), ni_cl (by omega)]
theorem ro_s4 {h : Hp} {m i : Nat} {v : Int32} (H : RO h m) (hi : i < 384) : astI h (some (m + 5)) (nI i) v = some (stI h (m + 5) i v) := by rw [astI_ok (ro_k4 H) (ni_in hi (by decide)), ni_cl (by omega)]
theorem ro_g5 {h : Hp} {m : Nat} (H : RO h m) : getR h (some m) 9 5 = some (some (m + 6)) := by rw [getR_ok (ro_K H), H.1]; rfl
theorem ro_k5 {h : Hp} {m : Nat} (H : RO h m) : hpK h (m + 6) = some (11, 384) := H.2 6 (by decide)
theorem ro_a5 {h : Hp} {m i : Nat} (H : RO h m) (hi : i < 384) : aldI h (some (m + 6)) 11 (nI i) = some (hpI h (m + 6) i) := by rw [aldI_ok (ro_k5 H) (ni_in hi (by decide)), ni_cl (by omega)]
theorem ro_s5 {h : Hp} {m i : Nat} {v : Int32} (H : RO h m) (hi : i < 384) : astI h (some (m + 6)) (nI i) v = some (stI h (m + 6) i v) := by rw [astI_ok (ro_k5 H) (ni_in hi (by decide)), ni_cl (by omega)]
theorem ro_g6 {h : Hp} {m : Nat} (H : RO h m) : getR h (some m) 9 6 = some (some (m + 7)) := by rw [getR_ok (ro_K H), H.1]; rfl
theorem ro_k6 {h : Hp} {m : Nat} (H : RO h m) : hpK h (m + 7) = some (11, 384) := H.2 7 (by decide)
theorem ro_a6 {h : Hp} {m i : Nat} (H : RO h m) (hi : i < 384) : aldI h (some (m + 7)) 11 (nI i) = some (hpI h (m + 7) i) := by rw [aldI_ok (ro_k6 H) (ni_in hi (by decide)), ni_cl (by omega)]
theorem ro_s6 {h : Hp} {m i : Nat} {v : Int32} (H : RO h m) (hi : i < 384) : astI h (some (m + 7)) (nI i) v = some (stI h (m + 7) i v) := by rw [astI_ok (ro_k6 H) (ni_in hi (by decide)), ni_cl (by omega)]
theorem ro_g7 {h : Hp} {m : Nat} (H : RO h m) : getR h (some m) 9 7 = some (some (m + 8)) := by rw [getR_ok (ro_K H), H.1]; rfl
theorem ro_k7 {h : Hp} {m : Nat} (H : RO h m) : hpK h (m + 8) = some (11, 384) := H.2 8 (by decide)
theorem ro_a7 {h : Hp} {m i : Nat} (H : RO h m) (hi : i < 384) : aldI h (some (m + 8)) 11 (nI i) = some (hpI h (m + 8) i) := by rw [aldI_ok (ro_k7 H) (ni_in hi (by decide)), ni_cl (by omega)]
theorem ro_s7 {h : Hp} {m i : Nat} {v : Int32} (H : RO h m) (hi : i < 384) : astI h (some (m + 8)) (nI i) v = some (stI h (m + 8) i v) := by rw [astI_ok (ro_k7 H) (ni_in hi (by decide)), ni_cl (by omega)]
theorem ro_g8 {h : Hp} {m : Nat} (H : RO h m) : getR h (some m) 9 8 = some (some (m + 9)) := by rw [getR_ok (ro_K H), H.1]; rfl
theorem ro_k8 {h : Hp} {m : Nat} (H : RO h m) : hpK h (m + 9) = some (10, 384) := H.2 9 (by decide)
theorem ro_a8 {h : Hp} {m i : Nat} (H : RO h m) (hi : i < 384) : aldD h (some (m + 9)) (nI i) = some (hpD h (m + 9) i) := by rw [aldD_ok (ro_k8 H) (ni_in hi (by decide)), ni_cl (by omega)]
theorem ro_s8 {h : Hp} {m i : Nat} {v : UInt64} (H : RO h m) (hi : i < 384) : astD h (some (m + 9)) (nI i) v = some (stD h (m + 9) i v) := by rw [astD_ok (ro_k8 H) (ni_in hi (by decide)), ni_cl (by omega)]
theorem ro_g10 {h : Hp} {m : Nat} (H : RO h m) : getR h (some m) 9 10 = some (some (m + 10)) := by rw [getR_ok (ro_K H), H.1]; rfl
theorem ro_k10 {h : Hp} {m : Nat} (H : RO h m) : hpK h (m + 10) = some (11, 8) := H.2 10 (by decide)
theorem ro_a10 {h : Hp} {m i : Nat} (H : RO h m) (hi : i < 8) : aldI h (some (m + 10)) 11 (nI i) = some (hpI h (m + 10) i) := by rw [aldI_ok (ro_k10 H) (ni_in hi (by decide)), ni_cl (by omega)]
theorem ro_s10 {h : Hp} {m i : Nat} {v : Int32} (H : RO h m) (hi : i < 8) : astI h (some (m + 10)) (nI i) v = some (stI h (m + 10) i v) := by rw [astI_ok (ro_k10 H) (ni_in hi (by decide)), ni_cl (by omega)]
theorem ro_g11 {h : Hp} {m : Nat} (H : RO h m) : getR h (some m) 9 11 = some (some (m + 11)) := by rw [getR_ok (ro_K H), H.1]; rfl
theorem ro_k11 {h : Hp} {m : Nat} (H : RO h m) : hpK h (m + 11) = some (11, 8) := H.2 11 (by decide)
theorem ro_a11 {h : Hp} {m i : Nat} (H : RO h m) (hi : i < 8) : aldI h (some (m + 11)) 11 (nI i) = some (hpI h (m + 11) i) := by rw [aldI_ok (ro_k11 H) (ni_in hi (by decide)), ni_cl (by omega)]
theorem ro_s11 {h : Hp} {m i : Nat} {v : Int32} (H : RO h m) (hi : i < 8) : astI h (some (m + 11)) (nI i) v = some (stI h (m + 11) i v) := by rw [astI_ok (ro_k11 H) (ni_in hi (by decide)), ni_cl (by omega)]
theorem ro_g12 {h : Hp} {m : Nat} (H : RO h m) : getR h (some m) 9 12 = some (some (m + 12)) := by rw [getR_ok (ro_K H), H.1]; rfl
theorem ro_k12 {h : Hp} {m : Nat} (H : RO h m) : hpK h (m + 12) = some (10, 128) := H.2 12 (by decide)
theorem ro_a12 {h : Hp} {m i : Nat} (H : RO h m) (hi : i < 128) : aldD h (some (m + 12)) (nI i) = some (hpD h (m + 12) i) := by rw [aldD_ok (ro_k12 H) (ni_in hi (by decide)), ni_cl (by omega)]
theorem ro_s12 {h : Hp} {m i : Nat} {v : UInt64} (H : RO h m) (hi : i < 128) : astD h (some (m + 12)) (nI i) v = some (stD h (m + 12) i v) := by rw [astD_ok (ro_k12 H) (ni_in hi (by decide)), ni_cl (by omega)]
theorem ro_g13 {h : Hp} {m : Nat} (H : RO h m) : getR h (some m) 9 13 = some (some (m + 13)) := by rw [getR_ok (ro_K H), H.1]; rfl
theorem ro_k13 {h : Hp} {m : Nat} (H : RO h m) : hpK h (m + 13) = some (10, 128) := H.2 13 (by decide)
theorem ro_a13 {h : Hp} {m i : Nat} (H : RO h m) (hi : i < 128) : aldD h (some (m + 13)) (nI i) = some (hpD h (m + 13) i) := by rw [aldD_ok (ro_k13 H) (ni_in hi (by decide)), ni_cl (by omega)]
theorem ro_s13 {h : Hp} {m i : Nat} {v : UInt64} (H : RO h m) (hi : i < 128) : astD h (some (m + 13)) (nI i) v = some (stD h (m + 13) i v) := by rw [astD_ok (ro_k13 H) (ni_in hi (by decide)), ni_cl (by omega)]
theorem ro_g15 {h : Hp} {m : Nat} (H : RO h m) : getR h (some m) 9 15 = some (some (m + 14)) := by rw [getR_ok (ro_K H), H.1]; rfl
theorem ro_k15 {h : Hp} {m : Nat} (H : RO h m) : hpK h (m + 14) = some (11, 9) := H.2 14 (by decide)
theorem ro_a15 {h : Hp} {m i : Nat} (H : RO h m) (hi : i < 9) : aldI h (some (m + 14)) 11 (nI i) = some (hpI h (m + 14) i) := by rw [aldI_ok (ro_k15 H) (ni_in hi (by decide)), ni_cl (by omega)]
theorem ro_s15 {h : Hp} {m i : Nat} {v : Int32} (H : RO h m) (hi : i < 9) : astI h (some (m + 14)) (nI i) v = some (stI h (m + 14) i v) := by rw [astI_ok (ro_k15 H) (ni_in hi (by decide)), ni_cl (by omega)]
theorem ro_g16 {h : Hp} {m : Nat} (H : RO h m) : getR h (some m) 9 16 = some (some (m + 15)) := by rw [getR_ok (ro_K H), H.1]; rfl
theorem ro_k16 {h : Hp} {m : Nat} (H : RO h m) : hpK h (m + 15) = some (11, 9) := H.2 15 (by decide)
theorem ro_a16 {h : Hp} {m i : Nat} (H : RO h m) (hi : i < 9) : aldI h (some (m + 15)) 11 (nI i) = some (hpI h (m + 15) i) := by rw [aldI_ok (ro_k16 H) (ni_in hi (by decide)), ni_cl (by omega)]
theorem ro_s16 {h : Hp} {m i : Nat} {v : Int32} (H : RO h m) (hi : i < 9) : astI h (some (m + 15)) (nI i) v = some (stI h (m + 15) i v) := by rw [astI_ok (ro_k16 H) (ni_in hi (by decide)), ni_cl (by omega)]
theorem ro_g17 {h : Hp} {m : Nat} (H : RO h m) : getR h (some m) 9 17 = some (some (m + 16)) := by rw [getR_ok (ro_K H), H.1]; rfl
theorem ro_k17 {h : Hp} {m : Nat} (H : RO h m) : hpK h (m + 16) = some (11, 9) := H.2 16 (by decide)
theorem ro_a17 {h : Hp} {m i : Nat} (H : RO h m) (hi : i < 9) : aldI h (some (m + 16)) 11 (nI i) = some (hpI h (m + 16) i) := by rw [aldI_ok (ro_k17 H) (ni_in hi (by decide)), ni_cl (by omega)]
theorem ro_s17 {h : Hp} {m i : Nat} {v : Int32} (H : RO h m) (hi : i < 9) : astI h (some (m + 16)) (nI i) v = some (stI h (m + 16) i v) := by rw [astI_ok (ro_k17 H) (ni_in hi (by decide)), ni_cl (by omega)]
theorem ro_g18 {h : Hp} {m : Nat} (H : RO h m) : getR h (some m) 9 18 = some (some (m + 17)) := by rw [getR_ok (ro_K H), H.1]; rfl
theorem ro_k18 {h : Hp} {m : Nat} (H : RO h m) : hpK h (m + 17) = some (11, 9) := H.2 17 (by decide)
theorem ro_a18 {h : Hp} {m i : Nat} (H : RO h m) (hi : i < 9) : aldI h (some (m + 17)) 11 (nI i) = some (hpI h (m + 17) i) := by rw [aldI_ok (ro_k18 H) (ni_in hi (by decide)), ni_cl (by omega)]
theorem ro_s18 {h : Hp} {m i : Nat} {v : Int32} (H : RO h m) (hi : i < 9) : astI h (some (m + 17)) (nI i) v = some (stI h (m + 17) i v) := by rw [astI_ok (ro_k18 H) (ni_in hi (by decide)), ni_cl (by omega)]
theorem ro_g19 {h : Hp} {m : Nat} (H : RO h m) : getR h (some m) 9 19 = some (some (m + 18)) := by rw [getR_ok (ro_K H), H.1]; rfl
theorem ro_k19 {h : Hp} {m : Nat} (H : RO h m) : hpK h (m + 18) = some (11, 9) := H.2 18 (by decide)
theorem ro_a19 {h : Hp} {m i : Nat} (H : RO h m) (hi : i < 9) : aldI h (some (m + 18)) 11 (nI i) = some (hpI h (m + 18) i) := by rw [aldI_ok (ro_k19 H) (ni_in hi (by decide)), ni_cl (by omega)]
theorem ro_s19 {h : Hp} {m i : Nat} {v : Int32} (H : RO h m) (hi : i < 9) : astI h (some (m + 18)) (nI i) v = some (stI h (m + 18) i v) := by rw [astI_ok (ro_k19 H) (ni_in hi (by decide)), ni_cl (by omega)]
theorem ro_g20 {h : Hp} {m : Nat} (H : RO h m) : getR h (some m) 9 20 = some (some (m + 19)) := by rw [getR_ok (ro_K H), H.1]; rfl
theorem ro_k20 {h : Hp} {m : Nat} (H : RO h m) : hpK h (m + 19) = some (11, 9) := H.2 19 (by decide)
theorem ro_a20 {h : Hp} {m i : Nat} (H : RO h m) (hi : i < 9) : aldI h (some (m + 19)) 11 (nI i) = some (hpI h (m + 19) i) := by rw [aldI_ok (ro_k20 H) (ni_in hi (by decide)), ni_cl (by omega)]
theorem ro_s20 {h : Hp} {m i : Nat} {v : Int32} (H : RO h m) (hi : i < 9) : astI h (some (m + 19)) (nI i) v = some (stI h (m + 19) i v) := by rw [astI_ok (ro_k20 H) (ni_in hi (by decide)), ni_cl (by omega)]
theorem ro_g21 {h : Hp} {m : Nat} (H : RO h m) : getR h (some m) 9 21 = some (some (m + 20)) := by rw [getR_ok (ro_K H), H.1]; rfl
theorem ro_k21 {h : Hp} {m : Nat} (H : RO h m) : hpK h (m + 20) = some (11, 9) := H.2 20 (by decide)
theorem ro_a21 {h : Hp} {m i : Nat} (H : RO h m) (hi : i < 9) : aldI h (some (m + 20)) 11 (nI i) = some (hpI h (m + 20) i) := by rw [aldI_ok (ro_k21 H) (ni_in hi (by decide)), ni_cl (by omega)]
theorem ro_s21 {h : Hp} {m i : Nat} {v : Int32} (H : RO h m) (hi : i < 9) : astI h (some (m + 20)) (nI i) v = some (stI h (m + 20) i v) := by rw [astI_ok (ro_k21 H) (ni_in hi (by decide)), ni_cl (by omega)]
theorem ro_g22 {h : Hp} {m : Nat} (H : RO h m) : getR h (some m) 9 22 = some (some (m + 21)) := by rw [getR_ok (ro_K H), H.1]; rfl
theorem ro_k22 {h : Hp} {m : Nat} (H : RO h m) : hpK h (m + 21) = some (12, 9) := H.2 21 (by decide)
theorem ro_a22 {h : Hp} {m i : Nat} (H : RO h m) (hi : i < 9) : aldI h (some (m + 21)) 12 (nI i) = some (hpI h (m + 21) i) := by rw [aldI_ok (ro_k22 H) (ni_in hi (by decide)), ni_cl (by omega)]
theorem ro_s22 {h : Hp} {m i : Nat} {v : Int32} (H : RO h m) (hi : i < 9) : astZ h (some (m + 21)) (nI i) v = some (stI h (m + 21) i (vp_nar .boolean v)) := by rw [astZ_ok (ro_k22 H) (ni_in hi (by decide)), ni_cl (by omega)]
theorem ro_g23 {h : Hp} {m : Nat} (H : RO h m) : getR h (some m) 9 23 = some (some (m + 22)) := by rw [getR_ok (ro_K H), H.1]; rfl
theorem ro_k23 {h : Hp} {m : Nat} (H : RO h m) : hpK h (m + 22) = some (12, 9) := H.2 22 (by decide)
theorem ro_a23 {h : Hp} {m i : Nat} (H : RO h m) (hi : i < 9) : aldI h (some (m + 22)) 12 (nI i) = some (hpI h (m + 22) i) := by rw [aldI_ok (ro_k23 H) (ni_in hi (by decide)), ni_cl (by omega)]
theorem ro_s23 {h : Hp} {m i : Nat} {v : Int32} (H : RO h m) (hi : i < 9) : astZ h (some (m + 22)) (nI i) v = some (stI h (m + 22) i (vp_nar .boolean v)) := by rw [astZ_ok (ro_k23 H) (ni_in hi (by decide)), ni_cl (by omega)]
theorem ro_g24 {h : Hp} {m : Nat} (H : RO h m) : getR h (some m) 9 24 = some (some (m + 23)) := by rw [getR_ok (ro_K H), H.1]; rfl
theorem ro_k24 {h : Hp} {m : Nat} (H : RO h m) : hpK h (m + 23) = some (12, 4) := H.2 23 (by decide)
theorem ro_a24 {h : Hp} {m i : Nat} (H : RO h m) (hi : i < 4) : aldI h (some (m + 23)) 12 (nI i) = some (hpI h (m + 23) i) := by rw [aldI_ok (ro_k24 H) (ni_in hi (by decide)), ni_cl (by omega)]
theorem ro_s24 {h : Hp} {m i : Nat} {v : Int32} (H : RO h m) (hi : i < 4) : astZ h (some (m + 23)) (nI i) v = some (stI h (m + 23) i (vp_nar .boolean v)) := by rw [astZ_ok (ro_k24 H) (ni_in hi (by decide)), ni_cl (by omega)]
theorem ro_g25 {h : Hp} {m : Nat} (H : RO h m) : getR h (some m) 9 25 = some (some (m + 24)) := by rw [getR_ok (ro_K H), H.1]; rfl
theorem ro_k25 {h : Hp} {m : Nat} (H : RO h m) : hpK h (m + 24) = some (10, 9) := H.2 24 (by decide)
theorem ro_a25 {h : Hp} {m i : Nat} (H : RO h m) (hi : i < 9) : aldD h (some (m + 24)) (nI i) = some (hpD h (m + 24) i) := by rw [aldD_ok (ro_k25 H) (ni_in hi (by decide)), ni_cl (by omega)]
theorem ro_s25 {h : Hp} {m i : Nat} {v : UInt64} (H : RO h m) (hi : i < 9) : astD h (some (m + 24)) (nI i) v = some (stD h (m + 24) i v) := by rw [astD_ok (ro_k25 H) (ni_in hi (by decide)), ni_cl (by omega)]
theorem ro_g26 {h : Hp} {m : Nat} (H : RO h m) : getR h (some m) 9 26 = some (some (m + 25)) := by rw [getR_ok (ro_K H), H.1]; rfl
theorem ro_k26 {h : Hp} {m : Nat} (H : RO h m) : hpK h (m + 25) = some (10, 9) := H.2 25 (by decide)
theorem ro_a26 {h : Hp} {m i : Nat} (H : RO h m) (hi : i < 9) : aldD h (some (m + 25)) (nI i) = some (hpD h (m + 25) i) := by rw [aldD_ok (ro_k26 H) (ni_in hi (by decide)), ni_cl (by omega)]
theorem ro_s26 {h : Hp} {m i : Nat} {v : UInt64} (H : RO h m) (hi : i < 9) : astD h (some (m + 25)) (nI i) v = some (stD h (m + 25) i v) := by rw [astD_ok (ro_k26 H) (ni_in hi (by decide)), ni_cl (by omega)]
theorem ro_g27 {h : Hp} {m : Nat} (H : RO h m) : getR h (some m) 9 27 = some (some (m + 26)) := by rw [getR_ok (ro_K H), H.1]; rfl
theorem ro_k27 {h : Hp} {m : Nat} (H : RO h m) : hpK h (m + 26) = some (10, 9) := H.2 26 (by decide)
theorem ro_a27 {h : Hp} {m i : Nat} (H : RO h m) (hi : i < 9) : aldD h (some (m + 26)) (nI i) = some (hpD h (m + 26) i) := by rw [aldD_ok (ro_k27 H) (ni_in hi (by decide)), ni_cl (by omega)]
theorem ro_s27 {h : Hp} {m i : Nat} {v : UInt64} (H : RO h m) (hi : i < 9) : astD h (some (m + 26)) (nI i) v = some (stD h (m + 26) i v) := by rw [astD_ok (ro_k27 H) (ni_in hi (by decide)), ni_cl (by omega)]
theorem ro_g28 {h : Hp} {m : Nat} (H : RO h m) : getR h (some m) 9 28 = some (some (m + 27)) := by rw [getR_ok (ro_K H), H.1]; rfl
theorem ro_k28 {h : Hp} {m : Nat} (H : RO h m) : hpK h (m + 27) = some (10, 9) := H.2 27 (by decide)
theorem ro_a28 {h : Hp} {m i : Nat} (H : RO h m) (hi : i < 9) : aldD h (some (m + 27)) (nI i) = some (hpD h (m + 27) i) := by rw [aldD_ok (ro_k28 H) (ni_in hi (by decide)), ni_cl (by omega)]
theorem ro_s28 {h : Hp} {m i : Nat} {v : UInt64} (H : RO h m) (hi : i < 9) : astD h (some (m + 27)) (nI i) v = some (stD h (m + 27) i v) := by rw [astD_ok (ro_k28 H) (ni_in hi (by decide)), ni_cl (by omega)]
theorem ro_g29 {h : Hp} {m : Nat} (H : RO h m) : getR h (some m) 9 29 = some (some (m + 28)) := by rw [getR_ok (ro_K H), H.1]; rfl
theorem ro_k29 {h : Hp} {m : Nat} (H : RO h m) : hpK h (m + 28) = some (10, 9) := H.2 28 (by decide)
theorem ro_a29 {h : Hp} {m i : Nat} (H : RO h m) (hi : i < 9) : aldD h (some (m + 28)) (nI i) = some (hpD h (m + 28) i) := by rw [aldD_ok (ro_k29 H) (ni_in hi (by decide)), ni_cl (by omega)]
theorem ro_s29 {h : Hp} {m i : Nat} {v : UInt64} (H : RO h m) (hi : i < 9) : astD h (some (m + 28)) (nI i) v = some (stD h (m + 28) i v) := by rw [astD_ok (ro_k29 H) (ni_in hi (by decide)), ni_cl (by omega)]
theorem ro_g30 {h : Hp} {m : Nat} (H : RO h m) : getR h (some m) 9 30 = some (some (m + 29)) := by rw [getR_ok (ro_K H), H.1]; rfl
theorem ro_k30 {h : Hp} {m : Nat} (H : RO h m) : hpK h (m + 29) = some (10, 54) := H.2 29 (by decide)
theorem ro_a30 {h : Hp} {m i : Nat} (H : RO h m) (hi : i < 54) : aldD h (some (m + 29)) (nI i) = some (hpD h (m + 29) i) := by rw [aldD_ok (ro_k30 H) (ni_in hi (by decide)), ni_cl (by omega)]
theorem ro_s30 {h : Hp} {m i : Nat} {v : UInt64} (H : RO h m) (hi : i < 54) : astD h (some (m + 29)) (nI i) v = some (stD h (m + 29) i v) := by rw [astD_ok (ro_k30 H) (ni_in hi (by decide)), ni_cl (by omega)]
theorem ro_g31 {h : Hp} {m : Nat} (H : RO h m) : getR h (some m) 9 31 = some (some (m + 30)) := by rw [getR_ok (ro_K H), H.1]; rfl
theorem ro_k31 {h : Hp} {m : Nat} (H : RO h m) : hpK h (m + 30) = some (11, 36) := H.2 30 (by decide)
theorem ro_a31 {h : Hp} {m i : Nat} (H : RO h m) (hi : i < 36) : aldI h (some (m + 30)) 11 (nI i) = some (hpI h (m + 30) i) := by rw [aldI_ok (ro_k31 H) (ni_in hi (by decide)), ni_cl (by omega)]
theorem ro_s31 {h : Hp} {m i : Nat} {v : Int32} (H : RO h m) (hi : i < 36) : astI h (some (m + 30)) (nI i) v = some (stI h (m + 30) i v) := by rw [astI_ok (ro_k31 H) (ni_in hi (by decide)), ni_cl (by omega)]
theorem ro_g32 {h : Hp} {m : Nat} (H : RO h m) : getR h (some m) 9 32 = some (some (m + 31)) := by rw [getR_ok (ro_K H), H.1]; rfl
theorem ro_k32 {h : Hp} {m : Nat} (H : RO h m) : hpK h (m + 31) = some (11, 36) := H.2 31 (by decide)
theorem ro_a32 {h : Hp} {m i : Nat} (H : RO h m) (hi : i < 36) : aldI h (some (m + 31)) 11 (nI i) = some (hpI h (m + 31) i) := by rw [aldI_ok (ro_k32 H) (ni_in hi (by decide)), ni_cl (by omega)]
theorem ro_s32 {h : Hp} {m i : Nat} {v : Int32} (H : RO h m) (hi : i < 36) : astI h (some (m + 31)) (nI i) v = some (stI h (m + 31) i v) := by rw [astI_ok (ro_k32 H) (ni_in hi (by decide)), ni_cl (by omega)]
theorem ro_g33 {h : Hp} {m : Nat} (H : RO h m) : getR h (some m) 9 33 = some (some (m + 32)) := by rw [getR_ok (ro_K H), H.1]; rfl
theorem ro_k33 {h : Hp} {m : Nat} (H : RO h m) : hpK h (m + 32) = some (11, 36) := H.2 32 (by decide)
theorem ro_a33 {h : Hp} {m i : Nat} (H : RO h m) (hi : i < 36) : aldI h (some (m + 32)) 11 (nI i) = some (hpI h (m + 32) i) := by rw [aldI_ok (ro_k33 H) (ni_in hi (by decide)), ni_cl (by omega)]
theorem ro_s33 {h : Hp} {m i : Nat} {v : Int32} (H : RO h m) (hi : i < 36) : astI h (some (m + 32)) (nI i) v = some (stI h (m + 32) i v) := by rw [astI_ok (ro_k33 H) (ni_in hi (by decide)), ni_cl (by omega)]
theorem ro_g34 {h : Hp} {m : Nat} (H : RO h m) : getR h (some m) 9 34 = some (some (m + 33)) := by rw [getR_ok (ro_K H), H.1]; rfl
theorem ro_k34 {h : Hp} {m : Nat} (H : RO h m) : hpK h (m + 33) = some (11, 36) := H.2 33 (by decide)
theorem ro_a34 {h : Hp} {m i : Nat} (H : RO h m) (hi : i < 36) : aldI h (some (m + 33)) 11 (nI i) = some (hpI h (m + 33) i) := by rw [aldI_ok (ro_k34 H) (ni_in hi (by decide)), ni_cl (by omega)]
theorem ro_s34 {h : Hp} {m i : Nat} {v : Int32} (H : RO h m) (hi : i < 36) : astI h (some (m + 33)) (nI i) v = some (stI h (m + 33) i v) := by rw [astI_ok (ro_k34 H) (ni_in hi (by decide)), ni_cl (by omega)]
theorem ro_g35 {h : Hp} {m : Nat} (H : RO h m) : getR h (some m) 9 35 = some (some (m + 34)) := by rw [getR_ok (ro_K H), H.1]; rfl
theorem ro_k35 {h : Hp} {m : Nat} (H : RO h m) : hpK h (m + 34) = some (11, 576) := H.2 34 (by decide)
theorem ro_a35 {h : Hp} {m i : Nat} (H : RO h m) (hi : i < 576) : aldI h (some (m + 34)) 11 (nI i) = some (hpI h (m + 34) i) := by rw [aldI_ok (ro_k35 H) (ni_in hi (by decide)), ni_cl (by omega)]
theorem ro_s35 {h : Hp} {m i : Nat} {v : Int32} (H : RO h m) (hi : i < 576) : astI h (some (m + 34)) (nI i) v = some (stI h (m + 34) i v) := by rw [astI_ok (ro_k35 H) (ni_in hi (by decide)), ni_cl (by omega)]
theorem ro_g36 {h : Hp} {m : Nat} (H : RO h m) : getR h (some m) 9 36 = some (some (m + 35)) := by rw [getR_ok (ro_K H), H.1]; rfl
theorem ro_k36 {h : Hp} {m : Nat} (H : RO h m) : hpK h (m + 35) = some (10, 576) := H.2 35 (by decide)
theorem ro_a36 {h : Hp} {m i : Nat} (H : RO h m) (hi : i < 576) : aldD h (some (m + 35)) (nI i) = some (hpD h (m + 35) i) := by rw [aldD_ok (ro_k36 H) (ni_in hi (by decide)), ni_cl (by omega)]
theorem ro_s36 {h : Hp} {m i : Nat} {v : UInt64} (H : RO h m) (hi : i < 576) : astD h (some (m + 35)) (nI i) v = some (stD h (m + 35) i v) := by rw [astD_ok (ro_k36 H) (ni_in hi (by decide)), ni_cl (by omega)]
theorem ro_g37 {h : Hp} {m : Nat} (H : RO h m) : getR h (some m) 9 37 = some (some (m + 36)) := by rw [getR_ok (ro_K H), H.1]; rfl
theorem ro_k37 {h : Hp} {m : Nat} (H : RO h m) : hpK h (m + 36) = some (11, 9) := H.2 36 (by decide)
theorem ro_a37 {h : Hp} {m i : Nat} (H : RO h m) (hi : i < 9) : aldI h (some (m + 36)) 11 (nI i) = some (hpI h (m + 36) i) := by rw [aldI_ok (ro_k37 H) (ni_in hi (by decide)), ni_cl (by omega)]
theorem ro_s37 {h : Hp} {m i : Nat} {v : Int32} (H : RO h m) (hi : i < 9) : astI h (some (m + 36)) (nI i) v = some (stI h (m + 36) i v) := by rw [astI_ok (ro_k37 H) (ni_in hi (by decide)), ni_cl (by omega)]
theorem ro_g38 {h : Hp} {m : Nat} (H : RO h m) : getR h (some m) 9 38 = some (some (m + 37)) := by rw [getR_ok (ro_K H), H.1]; rfl
theorem ro_k38 {h : Hp} {m : Nat} (H : RO h m) : hpK h (m + 37) = some (10, 9) := H.2 37 (by decide)
theorem ro_a38 {h : Hp} {m i : Nat} (H : RO h m) (hi : i < 9) : aldD h (some (m + 37)) (nI i) = some (hpD h (m + 37) i) := by rw [aldD_ok (ro_k38 H) (ni_in hi (by decide)), ni_cl (by omega)]
theorem ro_s38 {h : Hp} {m i : Nat} {v : UInt64} (H : RO h m) (hi : i < 9) : astD h (some (m + 37)) (nI i) v = some (stD h (m + 37) i v) := by rw [astD_ok (ro_k38 H) (ni_in hi (by decide)), ni_cl (by omega)]
theorem ro_g39 {h : Hp} {m : Nat} (H : RO h m) : getR h (some m) 9 39 = some (some (m + 38)) := by rw [getR_ok (ro_K H), H.1]; rfl
theorem ro_k39 {h : Hp} {m : Nat} (H : RO h m) : hpK h (m + 38) = some (10, 9) := H.2 38 (by decide)
theorem ro_a39 {h : Hp} {m i : Nat} (H : RO h m) (hi : i < 9) : aldD h (some (m + 38)) (nI i) = some (hpD h (m + 38) i) := by rw [aldD_ok (ro_k39 H) (ni_in hi (by decide)), ni_cl (by omega)]
theorem ro_s39 {h : Hp} {m i : Nat} {v : UInt64} (H : RO h m) (hi : i < 9) : astD h (some (m + 38)) (nI i) v = some (stD h (m + 38) i v) := by rw [astD_ok (ro_k39 H) (ni_in hi (by decide)), ni_cl (by omega)]
theorem ro_g40 {h : Hp} {m : Nat} (H : RO h m) : getR h (some m) 9 40 = some (some (m + 39)) := by rw [getR_ok (ro_K H), H.1]; rfl
theorem ro_k40 {h : Hp} {m : Nat} (H : RO h m) : hpK h (m + 39) = some (10, 54) := H.2 39 (by decide)
theorem ro_a40 {h : Hp} {m i : Nat} (H : RO h m) (hi : i < 54) : aldD h (some (m + 39)) (nI i) = some (hpD h (m + 39) i) := by rw [aldD_ok (ro_k40 H) (ni_in hi (by decide)), ni_cl (by omega)]
theorem ro_s40 {h : Hp} {m i : Nat} {v : UInt64} (H : RO h m) (hi : i < 54) : astD h (some (m + 39)) (nI i) v = some (stD h (m + 39) i v) := by rw [astD_ok (ro_k40 H) (ni_in hi (by decide)), ni_cl (by omega)]
theorem ro_g41 {h : Hp} {m : Nat} (H : RO h m) : getR h (some m) 9 41 = some (some (m + 40)) := by rw [getR_ok (ro_K H), H.1]; rfl
theorem ro_k41 {h : Hp} {m : Nat} (H : RO h m) : hpK h (m + 40) = some (10, 54) := H.2 40 (by decide)
theorem ro_a41 {h : Hp} {m i : Nat} (H : RO h m) (hi : i < 54) : aldD h (some (m + 40)) (nI i) = some (hpD h (m + 40) i) := by rw [aldD_ok (ro_k41 H) (ni_in hi (by decide)), ni_cl (by omega)]
theorem ro_s41 {h : Hp} {m i : Nat} {v : UInt64} (H : RO h m) (hi : i < 54) : astD h (some (m + 40)) (nI i) v = some (stD h (m + 40) i v) := by rw [astD_ok (ro_k41 H) (ni_in hi (by decide)), ni_cl (by omega)]
theorem ro_g42 {h : Hp} {m : Nat} (H : RO h m) : getR h (some m) 9 42 = some (some (m + 41)) := by rw [getR_ok (ro_K H), H.1]; rfl
theorem ro_k42 {h : Hp} {m : Nat} (H : RO h m) : hpK h (m + 41) = some (10, 54) := H.2 41 (by decide)
theorem ro_a42 {h : Hp} {m i : Nat} (H : RO h m) (hi : i < 54) : aldD h (some (m + 41)) (nI i) = some (hpD h (m + 41) i) := by rw [aldD_ok (ro_k42 H) (ni_in hi (by decide)), ni_cl (by omega)]
theorem ro_s42 {h : Hp} {m i : Nat} {v : UInt64} (H : RO h m) (hi : i < 54) : astD h (some (m + 41)) (nI i) v = some (stD h (m + 41) i v) := by rw [astD_ok (ro_k42 H) (ni_in hi (by decide)), ni_cl (by omega)]
theorem ro_g43 {h : Hp} {m : Nat} (H : RO h m) : getR h (some m) 9 43 = some (some (m + 42)) := by rw [getR_ok (ro_K H), H.1]; rfl
theorem ro_k43 {h : Hp} {m : Nat} (H : RO h m) : hpK h (m + 42) = some (10, 54) := H.2 42 (by decide)
theorem ro_a43 {h : Hp} {m i : Nat} (H : RO h m) (hi : i < 54) : aldD h (some (m + 42)) (nI i) = some (hpD h (m + 42) i) := by rw [aldD_ok (ro_k43 H) (ni_in hi (by decide)), ni_cl (by omega)]
theorem ro_s43 {h : Hp} {m i : Nat} {v : UInt64} (H : RO h m) (hi : i < 54) : astD h (some (m + 42)) (nI i) v = some (stD h (m + 42) i v) := by rw [astD_ok (ro_k43 H) (ni_in hi (by decide)), ni_cl (by omega)]
theorem ro_g44 {h : Hp} {m : Nat} (H : RO h m) : getR h (some m) 9 44 = some (some (m + 43)) := by rw [getR_ok (ro_K H), H.1]; rfl
theorem ro_k44 {h : Hp} {m : Nat} (H : RO h m) : hpK h (m + 43) = some (10, 270) := H.2 43 (by decide)
theorem ro_a44 {h : Hp} {m i : Nat} (H : RO h m) (hi : i < 270) : aldD h (some (m + 43)) (nI i) = some (hpD h (m + 43) i) := by rw [aldD_ok (ro_k44 H) (ni_in hi (by decide)), ni_cl (by omega)]
theorem ro_s44 {h : Hp} {m i : Nat} {v : UInt64} (H : RO h m) (hi : i < 270) : astD h (some (m + 43)) (nI i) v = some (stD h (m + 43) i v) := by rw [astD_ok (ro_k44 H) (ni_in hi (by decide)), ni_cl (by omega)]
theorem ro_g46 {h : Hp} {m : Nat} (H : RO h m) : getR h (some m) 9 46 = some (some (m + 44)) := by rw [getR_ok (ro_K H), H.1]; rfl
theorem ro_k46 {h : Hp} {m : Nat} (H : RO h m) : hpK h (m + 44) = some (10, 48) := H.2 44 (by decide)
theorem ro_a46 {h : Hp} {m i : Nat} (H : RO h m) (hi : i < 48) : aldD h (some (m + 44)) (nI i) = some (hpD h (m + 44) i) := by rw [aldD_ok (ro_k46 H) (ni_in hi (by decide)), ni_cl (by omega)]
theorem ro_s46 {h : Hp} {m i : Nat} {v : UInt64} (H : RO h m) (hi : i < 48) : astD h (some (m + 44)) (nI i) v = some (stD h (m + 44) i v) := by rw [astD_ok (ro_k46 H) (ni_in hi (by decide)), ni_cl (by omega)]
theorem ro_g47 {h : Hp} {m : Nat} (H : RO h m) : getR h (some m) 9 47 = some (some (m + 45)) := by rw [getR_ok (ro_K H), H.1]; rfl
theorem ro_k47 {h : Hp} {m : Nat} (H : RO h m) : hpK h (m + 45) = some (10, 6) := H.2 45 (by decide)
theorem ro_a47 {h : Hp} {m i : Nat} (H : RO h m) (hi : i < 6) : aldD h (some (m + 45)) (nI i) = some (hpD h (m + 45) i) := by rw [aldD_ok (ro_k47 H) (ni_in hi (by decide)), ni_cl (by omega)]
theorem ro_s47 {h : Hp} {m i : Nat} {v : UInt64} (H : RO h m) (hi : i < 6) : astD h (some (m + 45)) (nI i) v = some (stD h (m + 45) i v) := by rw [astD_ok (ro_k47 H) (ni_in hi (by decide)), ni_cl (by omega)]
theorem ro_g48 {h : Hp} {m : Nat} (H : RO h m) : getR h (some m) 9 48 = some (some (m + 46)) := by rw [getR_ok (ro_K H), H.1]; rfl
theorem ro_k48 {h : Hp} {m : Nat} (H : RO h m) : hpK h (m + 46) = some (10, 6) := H.2 46 (by decide)
theorem ro_a48 {h : Hp} {m i : Nat} (H : RO h m) (hi : i < 6) : aldD h (some (m + 46)) (nI i) = some (hpD h (m + 46) i) := by rw [aldD_ok (ro_k48 H) (ni_in hi (by decide)), ni_cl (by omega)]
theorem ro_s48 {h : Hp} {m i : Nat} {v : UInt64} (H : RO h m) (hi : i < 6) : astD h (some (m + 46)) (nI i) v = some (stD h (m + 46) i v) := by rw [astD_ok (ro_k48 H) (ni_in hi (by decide)), ni_cl (by omega)]
theorem ro_g49 {h : Hp} {m : Nat} (H : RO h m) : getR h (some m) 9 49 = some (some (m + 47)) := by rw [getR_ok (ro_K H), H.1]; rfl
theorem ro_k49 {h : Hp} {m : Nat} (H : RO h m) : hpK h (m + 47) = some (10, 6) := H.2 47 (by decide)
theorem ro_a49 {h : Hp} {m i : Nat} (H : RO h m) (hi : i < 6) : aldD h (some (m + 47)) (nI i) = some (hpD h (m + 47) i) := by rw [aldD_ok (ro_k49 H) (ni_in hi (by decide)), ni_cl (by omega)]
theorem ro_s49 {h : Hp} {m i : Nat} {v : UInt64} (H : RO h m) (hi : i < 6) : astD h (some (m + 47)) (nI i) v = some (stD h (m + 47) i v) := by rw [astD_ok (ro_k49 H) (ni_in hi (by decide)), ni_cl (by omega)]
theorem ro_g50 {h : Hp} {m : Nat} (H : RO h m) : getR h (some m) 9 50 = some (some (m + 48)) := by rw [getR_ok (ro_K H), H.1]; rfl
theorem ro_k50 {h : Hp} {m : Nat} (H : RO h m) : hpK h (m + 48) = some (10, 6) := H.2 48 (by decide)
theorem ro_a50 {h : Hp} {m i : Nat} (H : RO h m) (hi : i < 6) : aldD h (some (m + 48)) (nI i) = some (hpD h (m + 48) i) := by rw [aldD_ok (ro_k50 H) (ni_in hi (by decide)), ni_cl (by omega)]
theorem ro_s50 {h : Hp} {m i : Nat} {v : UInt64} (H : RO h m) (hi : i < 6) : astD h (some (m + 48)) (nI i) v = some (stD h (m + 48) i v) := by rw [astD_ok (ro_k50 H) (ni_in hi (by decide)), ni_cl (by omega)]
theorem ro_g51 {h : Hp} {m : Nat} (H : RO h m) : getR h (some m) 9 51 = some (some (m + 49)) := by rw [getR_ok (ro_K H), H.1]; rfl
theorem ro_k51 {h : Hp} {m : Nat} (H : RO h m) : hpK h (m + 49) = some (10, 6) := H.2 49 (by decide)
theorem ro_a51 {h : Hp} {m i : Nat} (H : RO h m) (hi : i < 6) : aldD h (some (m + 49)) (nI i) = some (hpD h (m + 49) i) := by rw [aldD_ok (ro_k51 H) (ni_in hi (by decide)), ni_cl (by omega)]
theorem ro_s51 {h : Hp} {m i : Nat} {v : UInt64} (H : RO h m) (hi : i < 6) : astD h (some (m + 49)) (nI i) v = some (stD h (m + 49) i v) := by rw [astD_ok (ro_k51 H) (ni_in hi (by decide)), ni_cl (by omega)]
theorem ro_g52 {h : Hp} {m : Nat} (H : RO h m) : getR h (some m) 9 52 = some (some (m + 50)) := by rw [getR_ok (ro_K H), H.1]; rfl
theorem ro_k52 {h : Hp} {m : Nat} (H : RO h m) : hpK h (m + 50) = some (10, 6) := H.2 50 (by decide)
theorem ro_a52 {h : Hp} {m i : Nat} (H : RO h m) (hi : i < 6) : aldD h (some (m + 50)) (nI i) = some (hpD h (m + 50) i) := by rw [aldD_ok (ro_k52 H) (ni_in hi (by decide)), ni_cl (by omega)]
theorem ro_s52 {h : Hp} {m i : Nat} {v : UInt64} (H : RO h m) (hi : i < 6) : astD h (some (m + 50)) (nI i) v = some (stD h (m + 50) i v) := by rw [astD_ok (ro_k52 H) (ni_in hi (by decide)), ni_cl (by omega)]
theorem ro_g53 {h : Hp} {m : Nat} (H : RO h m) : getR h (some m) 9 53 = some (some (m + 51)) := by rw [getR_ok (ro_K H), H.1]; rfl
theorem ro_k53 {h : Hp} {m : Nat} (H : RO h m) : hpK h (m + 51) = some (10, 6) := H.2 51 (by decide)
theorem ro_a53 {h : Hp} {m i : Nat} (H : RO h m) (hi : i < 6) : aldD h (some (m + 51)) (nI i) = some (hpD h (m + 51) i) := by rw [aldD_ok (ro_k53 H) (ni_in hi (by decide)), ni_cl (by omega)]
theorem ro_s53 {h : Hp} {m i : Nat} {v : UInt64} (H : RO h m) (hi : i < 6) : astD h (some (m + 51)) (nI i) v = some (stD h (m + 51) i v) := by rw [astD_ok (ro_k53 H) (ni_in hi (by decide)), ni_cl (by omega)]
theorem ro_g54 {h : Hp} {m : Nat} (H : RO h m) : getR h (some m) 9 54 = some (some (m + 52)) := by rw [getR_ok (ro_K H), H.1]; rfl
theorem ro_k54 {h : Hp} {m : Nat} (H : RO h m) : hpK h (m + 52) = some (10, 6) := H.2 52 (by decide)
theorem ro_a54 {h : Hp} {m i : Nat} (H : RO h m) (hi : i < 6) : aldD h (some (m + 52)) (nI i) = some (hpD h (m + 52) i) := by rw [aldD_ok (ro_k54 H) (ni_in hi (by decide)), ni_cl (by omega)]
theorem ro_s54 {h : Hp} {m i : Nat} {v : UInt64} (H : RO h m) (hi : i < 6) : astD h (some (m + 52)) (nI i) v = some (stD h (m + 52) i v) := by rw [astD_ok (ro_k54 H) (ni_in hi (by decide)), ni_cl (by omega)]
theorem ro_g55 {h : Hp} {m : Nat} (H : RO h m) : getR h (some m) 9 55 = some (some (m + 53)) := by rw [getR_ok (ro_K H), H.1]; rfl
theorem ro_k55 {h : Hp} {m : Nat} (H : RO h m) : hpK h (m + 53) = some (10, 6) := H.2 53 (by decide)
theorem ro_a55 {h : Hp} {m i : Nat} (H : RO h m) (hi : i < 6) : aldD h (some (m + 53)) (nI i) = some (hpD h (m + 53) i) := by rw [aldD_ok (ro_k55 H) (ni_in hi (by decide)), ni_cl (by omega)]
theorem ro_s55 {h : Hp} {m i : Nat} {v : UInt64} (H : RO h m) (hi : i < 6) : astD h (some (m + 53)) (nI i) v = some (stD h (m + 53) i v) := by rw [astD_ok (ro_k55 H) (ni_in hi (by decide)), ni_cl (by omega)]
theorem ro_g56 {h : Hp} {m : Nat} (H : RO h m) : getR h (some m) 9 56 = some (some (m + 54)) := by rw [getR_ok (ro_K H), H.1]; rfl
theorem ro_k56 {h : Hp} {m : Nat} (H : RO h m) : hpK h (m + 54) = some (10, 6) := H.2 54 (by decide)
theorem ro_a56 {h : Hp} {m i : Nat} (H : RO h m) (hi : i < 6) : aldD h (some (m + 54)) (nI i) = some (hpD h (m + 54) i) := by rw [aldD_ok (ro_k56 H) (ni_in hi (by decide)), ni_cl (by omega)]
theorem ro_s56 {h : Hp} {m i : Nat} {v : UInt64} (H : RO h m) (hi : i < 6) : astD h (some (m + 54)) (nI i) v = some (stD h (m + 54) i v) := by rw [astD_ok (ro_k56 H) (ni_in hi (by decide)), ni_cl (by omega)]
theorem ro_g57 {h : Hp} {m : Nat} (H : RO h m) : getR h (some m) 9 57 = some (some (m + 55)) := by rw [getR_ok (ro_K H), H.1]; rfl
theorem ro_k57 {h : Hp} {m : Nat} (H : RO h m) : hpK h (m + 55) = some (10, 6) := H.2 55 (by decide)
theorem ro_a57 {h : Hp} {m i : Nat} (H : RO h m) (hi : i < 6) : aldD h (some (m + 55)) (nI i) = some (hpD h (m + 55) i) := by rw [aldD_ok (ro_k57 H) (ni_in hi (by decide)), ni_cl (by omega)]
theorem ro_s57 {h : Hp} {m i : Nat} {v : UInt64} (H : RO h m) (hi : i < 6) : astD h (some (m + 55)) (nI i) v = some (stD h (m + 55) i v) := by rw [astD_ok (ro_k57 H) (ni_in hi (by decide)), ni_cl (by omega)]
theorem ro_g58 {h : Hp} {m : Nat} (H : RO h m) : getR h (some m) 9 58 = some (some (m + 56)) := by rw [getR_ok (ro_K H), H.1]; rfl
theorem ro_k58 {h : Hp} {m : Nat} (H : RO h m) : hpK h (m + 56) = some (10, 4) := H.2 56 (by decide)
theorem ro_a58 {h : Hp} {m i : Nat} (H : RO h m) (hi : i < 4) : aldD h (some (m + 56)) (nI i) = some (hpD h (m + 56) i) := by rw [aldD_ok (ro_k58 H) (ni_in hi (by decide)), ni_cl (by omega)]
theorem ro_s58 {h : Hp} {m i : Nat} {v : UInt64} (H : RO h m) (hi : i < 4) : astD h (some (m + 56)) (nI i) v = some (stD h (m + 56) i v) := by rw [astD_ok (ro_k58 H) (ni_in hi (by decide)), ni_cl (by omega)]
theorem ro_g59 {h : Hp} {m : Nat} (H : RO h m) : getR h (some m) 9 59 = some (some (m + 57)) := by rw [getR_ok (ro_K H), H.1]; rfl
theorem ro_k59 {h : Hp} {m : Nat} (H : RO h m) : hpK h (m + 57) = some (12, 4) := H.2 57 (by decide)
theorem ro_a59 {h : Hp} {m i : Nat} (H : RO h m) (hi : i < 4) : aldI h (some (m + 57)) 12 (nI i) = some (hpI h (m + 57) i) := by rw [aldI_ok (ro_k59 H) (ni_in hi (by decide)), ni_cl (by omega)]
theorem ro_s59 {h : Hp} {m i : Nat} {v : Int32} (H : RO h m) (hi : i < 4) : astZ h (some (m + 57)) (nI i) v = some (stI h (m + 57) i (vp_nar .boolean v)) := by rw [astZ_ok (ro_k59 H) (ni_in hi (by decide)), ni_cl (by omega)]
theorem ro_gi {h : Hp} {m k : Nat} (H : RO h m) : getI h (some m) 9 k = some (hpI h m k) := getI_ok (ro_K H)
theorem ro_pi {h : Hp} {m k : Nat} {v : Int32} (H : RO h m) : putI h (some m) 9 k v = some (stI h m k v) := putI_ok (ro_K H)
theorem ro_pz {h : Hp} {m k : Nat} {v : Int32} (H : RO h m) (hv : v = 0 ∨ v = 1) : putZ h (some m) 9 k v = some (stI h m k v) := putZ_ok (ro_K H) hv
theorem ro_ck {h : Hp} {m : Nat} (H : RO h m) : ab_ck h (some m) (9, 0) = some m := ck_ok (ro_K H)
theorem RO.stI {h : Hp} {m : Nat} (H : RO h m) (a k : Nat) (v : Int32) : RO (stI h a k v) m := H
theorem RO.stD {h : Hp} {m : Nat} (H : RO h m) (a k : Nat) (v : UInt64) : RO (stD h a k v) m := H
theorem RO.stR {h : Hp} {m : Nat} (H : RO h m) {a : Nat} (ha : m ≠ a) (k : Nat) (v : Option Nat) : RO (stR h a k v) m := by
  refine ⟨fun j => ?_, H.2⟩
  rw [hpR_stR, if_neg ha]
  exact H.1 j
theorem RO.alo {h : Hp} {m : Nat} (H : RO h m) (hm : m + 58 ≤ hpS h) (kd : Nat × Nat) : RO (alo h kd) m := by
  refine ⟨fun j => ?_, fun q hq => ?_⟩
  · rw [hpR_alo, if_neg (by omega)]
    exact H.1 j
  · rw [hpK_alo, if_neg (by omega)]
    exact H.2 q hq
theorem li0 : (0 : Int32) = nI 0 := rfl
theorem li1 : (1 : Int32) = nI 1 := rfl
theorem li2 : (2 : Int32) = nI 2 := rfl
theorem li3 : (3 : Int32) = nI 3 := rfl
theorem li4 : (4 : Int32) = nI 4 := rfl
theorem li5 : (5 : Int32) = nI 5 := rfl
theorem li6 : (6 : Int32) = nI 6 := rfl
theorem li7 : (7 : Int32) = nI 7 := rfl
theorem li8 : (8 : Int32) = nI 8 := rfl
theorem li9 : (9 : Int32) = nI 9 := rfl
theorem li10 : (10 : Int32) = nI 10 := rfl
theorem li11 : (11 : Int32) = nI 11 := rfl
theorem li12 : (12 : Int32) = nI 12 := rfl
theorem li13 : (13 : Int32) = nI 13 := rfl
theorem li16 : (16 : Int32) = nI 16 := rfl
theorem li30 : (30 : Int32) = nI 30 := rfl
theorem li36 : (36 : Int32) = nI 36 := rfl
theorem li48 : (48 : Int32) = nI 48 := rfl
theorem li64 : (64 : Int32) = nI 64 := rfl
theorem li200 : (200 : Int32) = nI 200 := rfl
