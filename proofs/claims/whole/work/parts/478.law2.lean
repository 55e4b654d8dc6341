set_option maxHeartbeats 4000000 in
set_option maxRecDepth 100000 in
theorem lw_stage {xs : Nat → Int32} {L c b n : Nat} {h : Hp} (hL : L ≤ 448) (hb : 7 * b + 7 ≤ L) (I : INV b h c) (ew : (xs (7 * b) &&& 31) = nI 18) : ∃ h2, f_L_law_18 xs L (n + 1) (some c) (some (c + 66)) (nI (7 * b)) h = f_L_law_18 xs L n (some c) (some (c + 66)) (nI (7 * (b + 1))) h2 ∧ INV (b + 1) h2 c := by
  obtain ⟨lt, s0, s1, s2, s3, s4, s5, s6, nx⟩ := lw_pre (xs := xs) hL hb
  have KK := inv_K I
  obtain ⟨a, h1, h2, e1, e2, I2⟩ := op_stage I (by omega) (xs (7 * b + 1)) (xs (7 * b + 2)) (xs (7 * b + 3))
  have K1 : hpK h1 (c + 66) = some (9, 0) := by unfold f_X9_stage at e2; exact ck_get e2
  refine ⟨h2, ?_, I2⟩
  conv => lhs; unfold f_L_law_18
  rw [if_neg lt, s0, Option.bind_some, ew, if_neg (by decide), if_neg (by decide), if_neg (by decide), if_neg (by decide), if_neg (by decide), if_neg (by decide), if_neg (by decide), if_neg (by decide), if_neg (by decide), if_neg (by decide), if_neg (by decide), if_neg (by decide), if_neg (by decide), if_neg (by decide), if_neg (by decide), if_neg (by decide), if_neg (by decide), if_neg (by decide), if_neg (by decide), if_pos (by decide), s1, Option.bind_some, s2, Option.bind_some, s3, Option.bind_some, ck_ok KK.1, Option.bind_some, e1, bnd_some, Option.bind_some, Option.bind_some, Option.bind_some, ck_ok K1, Option.bind_some, e2, bnd_some, if_pos (lg_self _)]
  unfold f_L_law_1511
  rw [nx]
set_option maxHeartbeats 4000000 in
set_option maxRecDepth 100000 in
theorem lw_value {xs : Nat → Int32} {L c b n : Nat} {h : Hp} (hL : L ≤ 448) (hb : 7 * b + 7 ≤ L) (I : INV b h c) (ew : (xs (7 * b) &&& 31) = nI 19) : ∃ h2, f_L_law_18 xs L (n + 1) (some c) (some (c + 66)) (nI (7 * b)) h = f_L_law_18 xs L n (some c) (some (c + 66)) (nI (7 * (b + 1))) h2 ∧ INV (b + 1) h2 c := by
  obtain ⟨lt, s0, s1, s2, s3, s4, s5, s6, nx⟩ := lw_pre (xs := xs) hL hb
  have KK := inv_K I
  obtain ⟨a, h1, h2, e1, e2, I2⟩ := op_value I (xs (7 * b + 1)) (xs (7 * b + 2))
  have K1 : hpK h1 (c + 66) = some (9, 0) := by unfold f_X9_value at e2; exact ck_get e2
  refine ⟨h2, ?_, I2⟩
  conv => lhs; unfold f_L_law_18
  rw [if_neg lt, s0, Option.bind_some, ew, if_neg (by decide), if_neg (by decide), if_neg (by decide), if_neg (by decide), if_neg (by decide), if_neg (by decide), if_neg (by decide), if_neg (by decide), if_neg (by decide), if_neg (by decide), if_neg (by decide), if_neg (by decide), if_neg (by decide), if_neg (by decide), if_neg (by decide), if_neg (by decide), if_neg (by decide), if_neg (by decide), if_neg (by decide), if_neg (by decide), if_pos (by decide), s1, Option.bind_some, s2, Option.bind_some, ck_ok KK.1, Option.bind_some, e1, bnd_some, Option.bind_some, Option.bind_some, ck_ok K1, Option.bind_some, e2, bnd_some, if_pos (lg_self _)]
  unfold f_L_law_1511
  rw [nx]
set_option maxHeartbeats 4000000 in
set_option maxRecDepth 100000 in
theorem lw_between {xs : Nat → Int32} {L c b n : Nat} {h : Hp} (hL : L ≤ 448) (hb : 7 * b + 7 ≤ L) (I : INV b h c) (ew : (xs (7 * b) &&& 31) = nI 20) : ∃ h2, f_L_law_18 xs L (n + 1) (some c) (some (c + 66)) (nI (7 * b)) h = f_L_law_18 xs L n (some c) (some (c + 66)) (nI (7 * (b + 1))) h2 ∧ INV (b + 1) h2 c := by
  obtain ⟨lt, s0, s1, s2, s3, s4, s5, s6, nx⟩ := lw_pre (xs := xs) hL hb
  have KK := inv_K I
  obtain ⟨a, h1, h2, e1, e2, I2⟩ := op_between I (by omega) (xs (7 * b + 1)) (xs (7 * b + 2)) (((xs (7 * b + 3)).toInt64 <<< ((32 : Int32).toInt64 &&& 63)) ||| ((xs (7 * b + 4)).toInt64 &&& (4294967295))) (xs (7 * b + 5))
  have K1 : hpK h1 (c + 66) = some (9, 0) := by unfold f_X9_between at e2; exact ck_get e2
  refine ⟨h2, ?_, I2⟩
  conv => lhs; unfold f_L_law_18
  rw [if_neg lt, s0, Option.bind_some, ew, if_neg (by decide), if_neg (by decide), if_neg (by decide), if_neg (by decide), if_neg (by decide), if_neg (by decide), if_neg (by decide), if_neg (by decide), if_neg (by decide), if_neg (by decide), if_neg (by decide), if_neg (by decide), if_neg (by decide), if_neg (by decide), if_neg (by decide), if_neg (by decide), if_neg (by decide), if_neg (by decide), if_neg (by decide), if_neg (by decide), if_neg (by decide), if_pos (by decide), s1, Option.bind_some, s2, Option.bind_some, s3, Option.bind_some, s4, Option.bind_some, s5, Option.bind_some, ck_ok KK.1, Option.bind_some, e1, bnd_some, Option.bind_some, Option.bind_some, Option.bind_some, Option.bind_some, Option.bind_some, ck_ok K1, Option.bind_some, e2, bnd_some, if_pos (lg_self _)]
  unfold f_L_law_1511
  rw [nx]
set_option maxHeartbeats 4000000 in
set_option maxRecDepth 100000 in
theorem lw_fired {xs : Nat → Int32} {L c b n : Nat} {h : Hp} (hL : L ≤ 448) (hb : 7 * b + 7 ≤ L) (I : INV b h c) (ew : (xs (7 * b) &&& 31) = nI 21) : ∃ h2, f_L_law_18 xs L (n + 1) (some c) (some (c + 66)) (nI (7 * b)) h = f_L_law_18 xs L n (some c) (some (c + 66)) (nI (7 * (b + 1))) h2 ∧ INV (b + 1) h2 c := by
  obtain ⟨lt, s0, s1, s2, s3, s4, s5, s6, nx⟩ := lw_pre (xs := xs) hL hb
  have KK := inv_K I
  obtain ⟨a, h1, h2, e1, e2, I2⟩ := op_fired I (xs (7 * b + 1)) (xs (7 * b + 2)) (xs (7 * b + 3))
  have K1 : hpK h1 (c + 66) = some (9, 0) := by unfold f_X9_fired at e2; exact ck_get e2
  refine ⟨h2, ?_, I2⟩
  conv => lhs; unfold f_L_law_18
  rw [if_neg lt, s0, Option.bind_some, ew, if_neg (by decide), if_neg (by decide), if_neg (by decide), if_neg (by decide), if_neg (by decide), if_neg (by decide), if_neg (by decide), if_neg (by decide), if_neg (by decide), if_neg (by decide), if_neg (by decide), if_neg (by decide), if_neg (by decide), if_neg (by decide), if_neg (by decide), if_neg (by decide), if_neg (by decide), if_neg (by decide), if_neg (by decide), if_neg (by decide), if_neg (by decide), if_neg (by decide), if_pos (by decide), s1, Option.bind_some, s2, Option.bind_some, s3, Option.bind_some, ck_ok KK.1, Option.bind_some, e1, bnd_some, Option.bind_some, Option.bind_some, Option.bind_some, ck_ok K1, Option.bind_some, e2, bnd_some, if_pos (lg_self _)]
  unfold f_L_law_1511
  rw [nx]
set_option maxHeartbeats 4000000 in
set_option maxRecDepth 100000 in
theorem lw_halves {xs : Nat → Int32} {L c b n : Nat} {h : Hp} (hL : L ≤ 448) (hb : 7 * b + 7 ≤ L) (I : INV b h c) (ew : (xs (7 * b) &&& 31) = nI 22) : ∃ h2, f_L_law_18 xs L (n + 1) (some c) (some (c + 66)) (nI (7 * b)) h = f_L_law_18 xs L n (some c) (some (c + 66)) (nI (7 * (b + 1))) h2 ∧ INV (b + 1) h2 c := by
  obtain ⟨lt, s0, s1, s2, s3, s4, s5, s6, nx⟩ := lw_pre (xs := xs) hL hb
  have KK := inv_K I
  obtain ⟨a, h1, h2, e1, e2, I2⟩ := op_halves I (xs (7 * b + 1)) (xs (7 * b + 2))
  have K1 : hpK h1 (c + 66) = some (9, 0) := by unfold f_X9_halves at e2; exact ck_get e2
  refine ⟨h2, ?_, I2⟩
  conv => lhs; unfold f_L_law_18
  rw [if_neg lt, s0, Option.bind_some, ew, if_neg (by decide), if_neg (by decide), if_neg (by decide), if_neg (by decide), if_neg (by decide), if_neg (by decide), if_neg (by decide), if_neg (by decide), if_neg (by decide), if_neg (by decide), if_neg (by decide), if_neg (by decide), if_neg (by decide), if_neg (by decide), if_neg (by decide), if_neg (by decide), if_neg (by decide), if_neg (by decide), if_neg (by decide), if_neg (by decide), if_neg (by decide), if_neg (by decide), if_neg (by decide), if_pos (by decide), s1, Option.bind_some, s2, Option.bind_some, ck_ok KK.1, Option.bind_some, e1, bnd_some, Option.bind_some, Option.bind_some, ck_ok K1, Option.bind_some, e2, bnd_some, if_pos (lg_self _)]
  unfold f_L_law_1511
  rw [nx]
set_option maxHeartbeats 4000000 in
set_option maxRecDepth 100000 in
theorem lw_keep {xs : Nat → Int32} {L c b n : Nat} {h : Hp} (hL : L ≤ 448) (hb : 7 * b + 7 ≤ L) (I : INV b h c) (ew : (xs (7 * b) &&& 31) = nI 23) : ∃ h2, f_L_law_18 xs L (n + 1) (some c) (some (c + 66)) (nI (7 * b)) h = f_L_law_18 xs L n (some c) (some (c + 66)) (nI (7 * (b + 1))) h2 ∧ INV (b + 1) h2 c := by
  obtain ⟨lt, s0, s1, s2, s3, s4, s5, s6, nx⟩ := lw_pre (xs := xs) hL hb
  have KK := inv_K I
  obtain ⟨a, h1, h2, e1, e2, I2⟩ := op_keep I (xs (7 * b + 1)) (xs (7 * b + 2))
  have K1 : hpK h1 (c + 66) = some (9, 0) := by unfold f_X9_keep at e2; exact ck_get e2
  refine ⟨h2, ?_, I2⟩
  conv => lhs; unfold f_L_law_18
  rw [if_neg lt, s0, Option.bind_some, ew, if_neg (by decide), if_neg (by decide), if_neg (by decide), if_neg (by decide), if_neg (by decide), if_neg (by decide), if_neg (by decide), if_neg (by decide), if_neg (by decide), if_neg (by decide), if_neg (by decide), if_neg (by decide), if_neg (by decide), if_neg (by decide), if_neg (by decide), if_neg (by decide), if_neg (by decide), if_neg (by decide), if_neg (by decide), if_neg (by decide), if_neg (by decide), if_neg (by decide), if_neg (by decide), if_neg (by decide), if_pos (by decide), s1, Option.bind_some, s2, Option.bind_some, ck_ok KK.1, Option.bind_some, e1, bnd_some, Option.bind_some, Option.bind_some, ck_ok K1, Option.bind_some, e2, bnd_some, if_pos rfl]
  unfold f_L_law_1511
  rw [nx]
set_option maxHeartbeats 4000000 in
set_option maxRecDepth 100000 in
theorem lw_back {xs : Nat → Int32} {L c b n : Nat} {h : Hp} (hL : L ≤ 448) (hb : 7 * b + 7 ≤ L) (I : INV b h c) (ew : (xs (7 * b) &&& 31) = nI 24) : ∃ h2, f_L_law_18 xs L (n + 1) (some c) (some (c + 66)) (nI (7 * b)) h = f_L_law_18 xs L n (some c) (some (c + 66)) (nI (7 * (b + 1))) h2 ∧ INV (b + 1) h2 c := by
  obtain ⟨lt, s0, s1, s2, s3, s4, s5, s6, nx⟩ := lw_pre (xs := xs) hL hb
  have KK := inv_K I
  obtain ⟨a, h1, h2, e1, e2, I2⟩ := op_back I (xs (7 * b + 1)) (xs (7 * b + 2))
  have K1 : hpK h1 (c + 66) = some (9, 0) := by unfold f_X9_back at e2; exact ck_get e2
  refine ⟨h2, ?_, I2⟩
  conv => lhs; unfold f_L_law_18
  rw [if_neg lt, s0, Option.bind_some, ew, if_neg (by decide), if_neg (by decide), if_neg (by decide), if_neg (by decide), if_neg (by decide), if_neg (by decide), if_neg (by decide), if_neg (by decide), if_neg (by decide), if_neg (by decide), if_neg (by decide), if_neg (by decide), if_neg (by decide), if_neg (by decide), if_neg (by decide), if_neg (by decide), if_neg (by decide), if_neg (by decide), if_neg (by decide), if_neg (by decide), if_neg (by decide), if_neg (by decide), if_neg (by decide), if_neg (by decide), if_neg (by decide), if_pos (by decide), s1, Option.bind_some, s2, Option.bind_some, ck_ok KK.1, Option.bind_some, e1, bnd_some, Option.bind_some, Option.bind_some, ck_ok K1, Option.bind_some, e2, bnd_some, if_pos rfl]
  unfold f_L_law_1511
  rw [nx]
set_option maxHeartbeats 4000000 in
set_option maxRecDepth 100000 in
theorem lw_unlike {xs : Nat → Int32} {L c b n : Nat} {h : Hp} (hL : L ≤ 448) (hb : 7 * b + 7 ≤ L) (I : INV b h c) (ew : (xs (7 * b) &&& 31) = nI 25) : ∃ h2, f_L_law_18 xs L (n + 1) (some c) (some (c + 66)) (nI (7 * b)) h = f_L_law_18 xs L n (some c) (some (c + 66)) (nI (7 * (b + 1))) h2 ∧ INV (b + 1) h2 c := by
  obtain ⟨lt, s0, s1, s2, s3, s4, s5, s6, nx⟩ := lw_pre (xs := xs) hL hb
  have KK := inv_K I
  obtain ⟨a, h1, h2, e1, e2, I2⟩ := op_unlike I (xs (7 * b + 1)) (xs (7 * b + 2))
  have K1 : hpK h1 (c + 66) = some (9, 0) := by unfold f_X9_unlike at e2; exact ck_get e2
  refine ⟨h2, ?_, I2⟩
  conv => lhs; unfold f_L_law_18
  rw [if_neg lt, s0, Option.bind_some, ew, if_neg (by decide), if_neg (by decide), if_neg (by decide), if_neg (by decide), if_neg (by decide), if_neg (by decide), if_neg (by decide), if_neg (by decide), if_neg (by decide), if_neg (by decide), if_neg (by decide), if_neg (by decide), if_neg (by decide), if_neg (by decide), if_neg (by decide), if_neg (by decide), if_neg (by decide), if_neg (by decide), if_neg (by decide), if_neg (by decide), if_neg (by decide), if_neg (by decide), if_neg (by decide), if_neg (by decide), if_neg (by decide), if_neg (by decide), if_pos (by decide), s1, Option.bind_some, s2, Option.bind_some, ck_ok KK.1, Option.bind_some, e1, bnd_some, Option.bind_some, Option.bind_some, ck_ok K1, Option.bind_some, e2, bnd_some, if_pos rfl]
  unfold f_L_law_1511
  rw [nx]
