set_option maxHeartbeats 4000000 in
set_option maxRecDepth 100000 in
theorem lw_method {xs : Nat → Int32} {L c b n : Nat} {h : Hp} (hL : L ≤ 448) (hb : 7 * b + 7 ≤ L) (I : INV b h c) (ew : (xs (7 * b) &&& 31) = nI 9) : ∃ h2, f_L_law_18 xs L (n + 1) (some c) (some (c + 66)) (nI (7 * b)) h = f_L_law_18 xs L n (some c) (some (c + 66)) (nI (7 * (b + 1))) h2 ∧ INV (b + 1) h2 c := by
  obtain ⟨lt, s0, s1, s2, s3, s4, s5, s6, nx⟩ := lw_pre (xs := xs) hL hb
  have KK := inv_K I
  obtain ⟨a, h1, h2, e1, e2, I2⟩ := op_method I (xs (7 * b + 1)) (xs (7 * b + 2))
  have K1 : hpK h1 (c + 66) = some (9, 0) := by unfold f_X9_method at e2; exact ck_get e2
  refine ⟨h2, ?_, I2⟩
  conv => lhs; unfold f_L_law_18
  rw [if_neg lt, s0, Option.bind_some, ew, if_neg (by decide), if_neg (by decide), if_neg (by decide), if_neg (by decide), if_neg (by decide), if_neg (by decide), if_neg (by decide), if_neg (by decide), if_neg (by decide), if_neg (by decide), if_pos (by decide), s1, Option.bind_some, s2, Option.bind_some, ck_ok KK.1, Option.bind_some, e1, bnd_some, Option.bind_some, Option.bind_some, ck_ok K1, Option.bind_some, e2, bnd_some, if_pos rfl]
  unfold f_L_law_1511
  rw [nx]
set_option maxHeartbeats 4000000 in
set_option maxRecDepth 100000 in
theorem lw_length {xs : Nat → Int32} {L c b n : Nat} {h : Hp} (hL : L ≤ 448) (hb : 7 * b + 7 ≤ L) (I : INV b h c) (ew : (xs (7 * b) &&& 31) = nI 10) : ∃ h2, f_L_law_18 xs L (n + 1) (some c) (some (c + 66)) (nI (7 * b)) h = f_L_law_18 xs L n (some c) (some (c + 66)) (nI (7 * (b + 1))) h2 ∧ INV (b + 1) h2 c := by
  obtain ⟨lt, s0, s1, s2, s3, s4, s5, s6, nx⟩ := lw_pre (xs := xs) hL hb
  have KK := inv_K I
  obtain ⟨a, h1, h2, e1, e2, I2⟩ := op_length I (xs (7 * b + 1)) (((xs (7 * b + 2)).toInt64 <<< ((32 : Int32).toInt64 &&& 63)) ||| ((xs (7 * b + 3)).toInt64 &&& (4294967295))) (xs (7 * b + 4))
  have K1 : hpK h1 (c + 66) = some (9, 0) := by unfold f_X9_length at e2; exact ck_get e2
  refine ⟨h2, ?_, I2⟩
  conv => lhs; unfold f_L_law_18
  rw [if_neg lt, s0, Option.bind_some, ew, if_neg (by decide), if_neg (by decide), if_neg (by decide), if_neg (by decide), if_neg (by decide), if_neg (by decide), if_neg (by decide), if_neg (by decide), if_neg (by decide), if_neg (by decide), if_neg (by decide), if_pos (by decide), s1, Option.bind_some, s2, Option.bind_some, s3, Option.bind_some, s4, Option.bind_some, ck_ok KK.1, Option.bind_some, e1, bnd_some, Option.bind_some, Option.bind_some, Option.bind_some, Option.bind_some, ck_ok K1, Option.bind_some, e2, bnd_some, if_pos rfl]
  unfold f_L_law_1511
  rw [nx]
set_option maxHeartbeats 4000000 in
set_option maxRecDepth 100000 in
theorem lw_tolerance {xs : Nat → Int32} {L c b n : Nat} {h : Hp} (hL : L ≤ 448) (hb : 7 * b + 7 ≤ L) (I : INV b h c) (ew : (xs (7 * b) &&& 31) = nI 11) : ∃ h2, f_L_law_18 xs L (n + 1) (some c) (some (c + 66)) (nI (7 * b)) h = f_L_law_18 xs L n (some c) (some (c + 66)) (nI (7 * (b + 1))) h2 ∧ INV (b + 1) h2 c := by
  obtain ⟨lt, s0, s1, s2, s3, s4, s5, s6, nx⟩ := lw_pre (xs := xs) hL hb
  have KK := inv_K I
  obtain ⟨a, h1, h2, e1, e2, I2⟩ := op_tolerance I (xs (7 * b + 1)) (((xs (7 * b + 2)).toInt64 <<< ((32 : Int32).toInt64 &&& 63)) ||| ((xs (7 * b + 3)).toInt64 &&& (4294967295))) (((xs (7 * b + 4)).toInt64 <<< ((32 : Int32).toInt64 &&& 63)) ||| ((xs (7 * b + 5)).toInt64 &&& (4294967295))) (xs (7 * b + 6))
  have K1 : hpK h1 (c + 66) = some (9, 0) := by unfold f_X9_tolerance at e2; exact ck_get e2
  refine ⟨h2, ?_, I2⟩
  conv => lhs; unfold f_L_law_18
  rw [if_neg lt, s0, Option.bind_some, ew, if_neg (by decide), if_neg (by decide), if_neg (by decide), if_neg (by decide), if_neg (by decide), if_neg (by decide), if_neg (by decide), if_neg (by decide), if_neg (by decide), if_neg (by decide), if_neg (by decide), if_neg (by decide), if_pos (by decide), s1, Option.bind_some, s2, Option.bind_some, s3, Option.bind_some, s4, Option.bind_some, s5, Option.bind_some, s6, Option.bind_some, ck_ok KK.1, Option.bind_some, e1, bnd_some, Option.bind_some, Option.bind_some, Option.bind_some, Option.bind_some, Option.bind_some, Option.bind_some, ck_ok K1, Option.bind_some, e2, bnd_some, if_pos rfl]
  unfold f_L_law_1511
  rw [nx]
set_option maxHeartbeats 4000000 in
set_option maxRecDepth 100000 in
theorem lw_event {xs : Nat → Int32} {L c b n : Nat} {h : Hp} (hL : L ≤ 448) (hb : 7 * b + 7 ≤ L) (I : INV b h c) (ew : (xs (7 * b) &&& 31) = nI 12) : ∃ h2, f_L_law_18 xs L (n + 1) (some c) (some (c + 66)) (nI (7 * b)) h = f_L_law_18 xs L n (some c) (some (c + 66)) (nI (7 * (b + 1))) h2 ∧ INV (b + 1) h2 c := by
  obtain ⟨lt, s0, s1, s2, s3, s4, s5, s6, nx⟩ := lw_pre (xs := xs) hL hb
  have KK := inv_K I
  obtain ⟨a, h1, h2, e1, e2, I2⟩ := op_event I (xs (7 * b + 1)) (xs (7 * b + 2)) (xs (7 * b + 3)) (xs (7 * b + 4)) (xs (7 * b + 5))
  have K1 : hpK h1 (c + 66) = some (9, 0) := by unfold f_X9_event at e2; exact ck_get e2
  refine ⟨h2, ?_, I2⟩
  conv => lhs; unfold f_L_law_18
  rw [if_neg lt, s0, Option.bind_some, ew, if_neg (by decide), if_neg (by decide), if_neg (by decide), if_neg (by decide), if_neg (by decide), if_neg (by decide), if_neg (by decide), if_neg (by decide), if_neg (by decide), if_neg (by decide), if_neg (by decide), if_neg (by decide), if_neg (by decide), if_pos (by decide), s1, Option.bind_some, s2, Option.bind_some, s3, Option.bind_some, s4, Option.bind_some, s5, Option.bind_some, ck_ok KK.1, Option.bind_some, e1, bnd_some, Option.bind_some, Option.bind_some, Option.bind_some, Option.bind_some, Option.bind_some, ck_ok K1, Option.bind_some, e2, bnd_some, if_pos rfl]
  unfold f_L_law_1511
  rw [nx]
set_option maxHeartbeats 4000000 in
set_option maxRecDepth 100000 in
theorem lw_step {xs : Nat → Int32} {L c b n : Nat} {h : Hp} (hL : L ≤ 448) (hb : 7 * b + 7 ≤ L) (I : INV b h c) (ew : (xs (7 * b) &&& 31) = nI 13) : ∃ h2, f_L_law_18 xs L (n + 1) (some c) (some (c + 66)) (nI (7 * b)) h = f_L_law_18 xs L n (some c) (some (c + 66)) (nI (7 * (b + 1))) h2 ∧ INV (b + 1) h2 c := by
  obtain ⟨lt, s0, s1, s2, s3, s4, s5, s6, nx⟩ := lw_pre (xs := xs) hL hb
  have KK := inv_K I
  obtain ⟨a, h1, h2, e1, e2, I2⟩ := op_step I (by omega) (xs (7 * b + 1))
  have K1 : hpK h1 (c + 66) = some (9, 0) := by unfold f_X9_step at e2; exact ck_get e2
  refine ⟨h2, ?_, I2⟩
  conv => lhs; unfold f_L_law_18
  rw [if_neg lt, s0, Option.bind_some, ew, if_neg (by decide), if_neg (by decide), if_neg (by decide), if_neg (by decide), if_neg (by decide), if_neg (by decide), if_neg (by decide), if_neg (by decide), if_neg (by decide), if_neg (by decide), if_neg (by decide), if_neg (by decide), if_neg (by decide), if_neg (by decide), if_pos (by decide), s1, Option.bind_some, ck_ok KK.1, Option.bind_some, e1, bnd_some, Option.bind_some, ck_ok K1, Option.bind_some, e2, bnd_some, if_pos rfl]
  unfold f_L_law_1511
  rw [nx]
set_option maxHeartbeats 4000000 in
set_option maxRecDepth 100000 in
theorem lw_to {xs : Nat → Int32} {L c b n : Nat} {h : Hp} (hL : L ≤ 448) (hb : 7 * b + 7 ≤ L) (I : INV b h c) (ew : (xs (7 * b) &&& 31) = nI 14) : ∃ h2, f_L_law_18 xs L (n + 1) (some c) (some (c + 66)) (nI (7 * b)) h = f_L_law_18 xs L n (some c) (some (c + 66)) (nI (7 * (b + 1))) h2 ∧ INV (b + 1) h2 c := by
  obtain ⟨lt, s0, s1, s2, s3, s4, s5, s6, nx⟩ := lw_pre (xs := xs) hL hb
  have KK := inv_K I
  obtain ⟨a, h1, h2, e1, e2, I2⟩ := op_to I (by omega) (xs (7 * b + 1)) (((xs (7 * b + 2)).toInt64 <<< ((32 : Int32).toInt64 &&& 63)) ||| ((xs (7 * b + 3)).toInt64 &&& (4294967295))) (xs (7 * b + 4)) (xs (7 * b + 5))
  have K1 : hpK h1 (c + 66) = some (9, 0) := by unfold f_X9_to at e2; exact ck_get e2
  refine ⟨h2, ?_, I2⟩
  conv => lhs; unfold f_L_law_18
  rw [if_neg lt, s0, Option.bind_some, ew, if_neg (by decide), if_neg (by decide), if_neg (by decide), if_neg (by decide), if_neg (by decide), if_neg (by decide), if_neg (by decide), if_neg (by decide), if_neg (by decide), if_neg (by decide), if_neg (by decide), if_neg (by decide), if_neg (by decide), if_neg (by decide), if_neg (by decide), if_pos (by decide), s1, Option.bind_some, s2, Option.bind_some, s3, Option.bind_some, s4, Option.bind_some, s5, Option.bind_some, ck_ok KK.1, Option.bind_some, e1, bnd_some, Option.bind_some, Option.bind_some, Option.bind_some, Option.bind_some, Option.bind_some, ck_ok K1, Option.bind_some, e2, bnd_some, if_pos rfl]
  unfold f_L_law_1511
  rw [nx]
set_option maxHeartbeats 4000000 in
set_option maxRecDepth 100000 in
theorem lw_state {xs : Nat → Int32} {L c b n : Nat} {h : Hp} (hL : L ≤ 448) (hb : 7 * b + 7 ≤ L) (I : INV b h c) (ew : (xs (7 * b) &&& 31) = nI 15) : ∃ h2, f_L_law_18 xs L (n + 1) (some c) (some (c + 66)) (nI (7 * b)) h = f_L_law_18 xs L n (some c) (some (c + 66)) (nI (7 * (b + 1))) h2 ∧ INV (b + 1) h2 c := by
  obtain ⟨lt, s0, s1, s2, s3, s4, s5, s6, nx⟩ := lw_pre (xs := xs) hL hb
  have KK := inv_K I
  obtain ⟨a, h1, h2, e1, e2, I2⟩ := op_state I (xs (7 * b + 1)) (xs (7 * b + 2))
  have K1 : hpK h1 (c + 66) = some (9, 0) := by unfold f_X9_state at e2; exact ck_get e2
  refine ⟨h2, ?_, I2⟩
  conv => lhs; unfold f_L_law_18
  rw [if_neg lt, s0, Option.bind_some, ew, if_neg (by decide), if_neg (by decide), if_neg (by decide), if_neg (by decide), if_neg (by decide), if_neg (by decide), if_neg (by decide), if_neg (by decide), if_neg (by decide), if_neg (by decide), if_neg (by decide), if_neg (by decide), if_neg (by decide), if_neg (by decide), if_neg (by decide), if_neg (by decide), if_pos (by decide), s1, Option.bind_some, s2, Option.bind_some, ck_ok KK.1, Option.bind_some, e1, bnd_some, Option.bind_some, Option.bind_some, ck_ok K1, Option.bind_some, e2, bnd_some, if_pos (lg_self _)]
  unfold f_L_law_1511
  rw [nx]
set_option maxHeartbeats 4000000 in
set_option maxRecDepth 100000 in
theorem lw_clock {xs : Nat → Int32} {L c b n : Nat} {h : Hp} (hL : L ≤ 448) (hb : 7 * b + 7 ≤ L) (I : INV b h c) (ew : (xs (7 * b) &&& 31) = nI 16) : ∃ h2, f_L_law_18 xs L (n + 1) (some c) (some (c + 66)) (nI (7 * b)) h = f_L_law_18 xs L n (some c) (some (c + 66)) (nI (7 * (b + 1))) h2 ∧ INV (b + 1) h2 c := by
  obtain ⟨lt, s0, s1, s2, s3, s4, s5, s6, nx⟩ := lw_pre (xs := xs) hL hb
  have KK := inv_K I
  obtain ⟨a, h1, h2, e1, e2, I2⟩ := op_clock I (xs (7 * b + 1)) (xs (7 * b + 2))
  have K1 : hpK h1 (c + 66) = some (9, 0) := by unfold f_X9_clock at e2; exact ck_get e2
  refine ⟨h2, ?_, I2⟩
  conv => lhs; unfold f_L_law_18
  rw [if_neg lt, s0, Option.bind_some, ew, if_neg (by decide), if_neg (by decide), if_neg (by decide), if_neg (by decide), if_neg (by decide), if_neg (by decide), if_neg (by decide), if_neg (by decide), if_neg (by decide), if_neg (by decide), if_neg (by decide), if_neg (by decide), if_neg (by decide), if_neg (by decide), if_neg (by decide), if_neg (by decide), if_neg (by decide), if_pos (by decide), s1, Option.bind_some, s2, Option.bind_some, ck_ok KK.1, Option.bind_some, e1, bnd_some, Option.bind_some, Option.bind_some, ck_ok K1, Option.bind_some, e2, bnd_some, if_pos (lg_self _)]
  unfold f_L_law_1511
  rw [nx]
set_option maxHeartbeats 4000000 in
set_option maxRecDepth 100000 in
theorem lw_count {xs : Nat → Int32} {L c b n : Nat} {h : Hp} (hL : L ≤ 448) (hb : 7 * b + 7 ≤ L) (I : INV b h c) (ew : (xs (7 * b) &&& 31) = nI 17) : ∃ h2, f_L_law_18 xs L (n + 1) (some c) (some (c + 66)) (nI (7 * b)) h = f_L_law_18 xs L n (some c) (some (c + 66)) (nI (7 * (b + 1))) h2 ∧ INV (b + 1) h2 c := by
  obtain ⟨lt, s0, s1, s2, s3, s4, s5, s6, nx⟩ := lw_pre (xs := xs) hL hb
  have KK := inv_K I
  obtain ⟨a, h1, h2, e1, e2, I2⟩ := op_count I (xs (7 * b + 1)) (xs (7 * b + 2))
  have K1 : hpK h1 (c + 66) = some (9, 0) := by unfold f_X9_count at e2; exact ck_get e2
  refine ⟨h2, ?_, I2⟩
  conv => lhs; unfold f_L_law_18
  rw [if_neg lt, s0, Option.bind_some, ew, if_neg (by decide), if_neg (by decide), if_neg (by decide), if_neg (by decide), if_neg (by decide), if_neg (by decide), if_neg (by decide), if_neg (by decide), if_neg (by decide), if_neg (by decide), if_neg (by decide), if_neg (by decide), if_neg (by decide), if_neg (by decide), if_neg (by decide), if_neg (by decide), if_neg (by decide), if_neg (by decide), if_pos (by decide), s1, Option.bind_some, s2, Option.bind_some, ck_ok KK.1, Option.bind_some, e1, bnd_some, Option.bind_some, Option.bind_some, ck_ok K1, Option.bind_some, e2, bnd_some, if_pos rfl]
  unfold f_L_law_1511
  rw [nx]
