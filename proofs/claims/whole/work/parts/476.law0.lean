set_option maxHeartbeats 4000000 in
set_option maxRecDepth 100000 in
theorem lw_law {xs : Nat → Int32} {L c b n : Nat} {h : Hp} (hL : L ≤ 448) (hb : 7 * b + 7 ≤ L) (I : INV b h c) (ew : (xs (7 * b) &&& 31) = nI 0) : ∃ h2, f_L_law_18 xs L (n + 1) (some c) (some (c + 66)) (nI (7 * b)) h = f_L_law_18 xs L n (some c) (some (c + 66)) (nI (7 * (b + 1))) h2 ∧ INV (b + 1) h2 c := by
  obtain ⟨lt, s0, s1, s2, s3, s4, s5, s6, nx⟩ := lw_pre (xs := xs) hL hb
  have KK := inv_K I
  obtain ⟨a, h1, h2, e1, e2, I2⟩ := op_law I (xs (7 * b + 1)) (xs (7 * b + 2))
  have K1 : hpK h1 (c + 66) = some (9, 0) := k9_law KK.2 e1 e2
  refine ⟨h2, ?_, I2⟩
  conv => lhs; unfold f_L_law_18
  rw [if_neg lt, s0, Option.bind_some, ew, if_neg (by decide), if_pos (by decide), s1, Option.bind_some, s2, Option.bind_some, ck_ok KK.1, Option.bind_some, e1, bnd_some, Option.bind_some, Option.bind_some, ck_ok K1, Option.bind_some, e2, bnd_some, if_pos rfl]
  unfold f_L_law_1511
  rw [nx]
set_option maxHeartbeats 4000000 in
set_option maxRecDepth 100000 in
theorem lw_constant {xs : Nat → Int32} {L c b n : Nat} {h : Hp} (hL : L ≤ 448) (hb : 7 * b + 7 ≤ L) (I : INV b h c) (ew : (xs (7 * b) &&& 31) = nI 1) : ∃ h2, f_L_law_18 xs L (n + 1) (some c) (some (c + 66)) (nI (7 * b)) h = f_L_law_18 xs L n (some c) (some (c + 66)) (nI (7 * (b + 1))) h2 ∧ INV (b + 1) h2 c := by
  obtain ⟨lt, s0, s1, s2, s3, s4, s5, s6, nx⟩ := lw_pre (xs := xs) hL hb
  have KK := inv_K I
  obtain ⟨a, h1, h2, e1, e2, I2⟩ := op_constant I (xs (7 * b + 1)) (((xs (7 * b + 2)).toInt64 <<< ((32 : Int32).toInt64 &&& 63)) ||| ((xs (7 * b + 3)).toInt64 &&& (4294967295))) (xs (7 * b + 4))
  have K1 : hpK h1 (c + 66) = some (9, 0) := by unfold f_X9_constant at e2; exact getI_get e2
  refine ⟨h2, ?_, I2⟩
  conv => lhs; unfold f_L_law_18
  rw [if_neg lt, s0, Option.bind_some, ew, if_neg (by decide), if_neg (by decide), if_pos (by decide), s1, Option.bind_some, s2, Option.bind_some, s3, Option.bind_some, s4, Option.bind_some, ck_ok KK.1, Option.bind_some, e1, bnd_some, Option.bind_some, Option.bind_some, Option.bind_some, Option.bind_some, ck_ok K1, Option.bind_some, e2, bnd_some, if_pos rfl]
  unfold f_L_law_1511
  rw [nx]
set_option maxHeartbeats 4000000 in
set_option maxRecDepth 100000 in
theorem lw_node {xs : Nat → Int32} {L c b n : Nat} {h : Hp} (hL : L ≤ 448) (hb : 7 * b + 7 ≤ L) (I : INV b h c) (ew : (xs (7 * b) &&& 31) = nI 2) : ∃ h2, f_L_law_18 xs L (n + 1) (some c) (some (c + 66)) (nI (7 * b)) h = f_L_law_18 xs L n (some c) (some (c + 66)) (nI (7 * (b + 1))) h2 ∧ INV (b + 1) h2 c := by
  obtain ⟨lt, s0, s1, s2, s3, s4, s5, s6, nx⟩ := lw_pre (xs := xs) hL hb
  have KK := inv_K I
  obtain ⟨a, h1, h2, e1, e2, I2⟩ := op_node I (xs (7 * b + 1)) (xs (7 * b + 2)) (xs (7 * b + 3)) (xs (7 * b + 4)) (xs (7 * b + 5))
  have K1 : hpK h1 (c + 66) = some (9, 0) := by unfold f_X9_node at e2; exact getI_get e2
  refine ⟨h2, ?_, I2⟩
  conv => lhs; unfold f_L_law_18
  rw [if_neg lt, s0, Option.bind_some, ew, if_neg (by decide), if_neg (by decide), if_neg (by decide), if_pos (by decide), s1, Option.bind_some, s2, Option.bind_some, s3, Option.bind_some, s4, Option.bind_some, s5, Option.bind_some, ck_ok KK.1, Option.bind_some, e1, bnd_some, Option.bind_some, Option.bind_some, Option.bind_some, Option.bind_some, Option.bind_some, ck_ok K1, Option.bind_some, e2, bnd_some, if_pos rfl]
  unfold f_L_law_1511
  rw [nx]
set_option maxHeartbeats 4000000 in
set_option maxRecDepth 100000 in
theorem lw_side {xs : Nat → Int32} {L c b n : Nat} {h : Hp} (hL : L ≤ 448) (hb : 7 * b + 7 ≤ L) (I : INV b h c) (ew : (xs (7 * b) &&& 31) = nI 3) : ∃ h2, f_L_law_18 xs L (n + 1) (some c) (some (c + 66)) (nI (7 * b)) h = f_L_law_18 xs L n (some c) (some (c + 66)) (nI (7 * (b + 1))) h2 ∧ INV (b + 1) h2 c := by
  obtain ⟨lt, s0, s1, s2, s3, s4, s5, s6, nx⟩ := lw_pre (xs := xs) hL hb
  have KK := inv_K I
  obtain ⟨a, h1, h2, e1, e2, I2⟩ := op_side I (xs (7 * b + 1)) (xs (7 * b + 2)) (xs (7 * b + 3))
  have K1 : hpK h1 (c + 66) = some (9, 0) := by unfold f_X9_side at e2; exact getI_get e2
  refine ⟨h2, ?_, I2⟩
  conv => lhs; unfold f_L_law_18
  rw [if_neg lt, s0, Option.bind_some, ew, if_neg (by decide), if_neg (by decide), if_neg (by decide), if_neg (by decide), if_pos (by decide), s1, Option.bind_some, s2, Option.bind_some, s3, Option.bind_some, ck_ok KK.1, Option.bind_some, e1, bnd_some, Option.bind_some, Option.bind_some, Option.bind_some, ck_ok K1, Option.bind_some, e2, bnd_some, if_pos rfl]
  unfold f_L_law_1511
  rw [nx]
set_option maxHeartbeats 4000000 in
set_option maxRecDepth 100000 in
theorem lw_signal {xs : Nat → Int32} {L c b n : Nat} {h : Hp} (hL : L ≤ 448) (hb : 7 * b + 7 ≤ L) (I : INV b h c) (ew : (xs (7 * b) &&& 31) = nI 4) : ∃ h2, f_L_law_18 xs L (n + 1) (some c) (some (c + 66)) (nI (7 * b)) h = f_L_law_18 xs L n (some c) (some (c + 66)) (nI (7 * (b + 1))) h2 ∧ INV (b + 1) h2 c := by
  obtain ⟨lt, s0, s1, s2, s3, s4, s5, s6, nx⟩ := lw_pre (xs := xs) hL hb
  have KK := inv_K I
  obtain ⟨a, h1, h2, e1, e2, I2⟩ := op_signal I (xs (7 * b + 1))
  have K1 : hpK h1 (c + 66) = some (9, 0) := k9_signal KK.2 e1 e2
  refine ⟨h2, ?_, I2⟩
  conv => lhs; unfold f_L_law_18
  rw [if_neg lt, s0, Option.bind_some, ew, if_neg (by decide), if_neg (by decide), if_neg (by decide), if_neg (by decide), if_neg (by decide), if_pos (by decide), s1, Option.bind_some, ck_ok KK.1, Option.bind_some, e1, bnd_some, Option.bind_some, ck_ok K1, Option.bind_some, e2, bnd_some, if_pos rfl]
  unfold f_L_law_1511
  rw [nx]
set_option maxHeartbeats 4000000 in
set_option maxRecDepth 100000 in
theorem lw_point {xs : Nat → Int32} {L c b n : Nat} {h : Hp} (hL : L ≤ 448) (hb : 7 * b + 7 ≤ L) (I : INV b h c) (ew : (xs (7 * b) &&& 31) = nI 5) : ∃ h2, f_L_law_18 xs L (n + 1) (some c) (some (c + 66)) (nI (7 * b)) h = f_L_law_18 xs L n (some c) (some (c + 66)) (nI (7 * (b + 1))) h2 ∧ INV (b + 1) h2 c := by
  obtain ⟨lt, s0, s1, s2, s3, s4, s5, s6, nx⟩ := lw_pre (xs := xs) hL hb
  have KK := inv_K I
  obtain ⟨a, h1, h2, e1, e2, I2⟩ := op_point I (xs (7 * b + 1)) (((xs (7 * b + 2)).toInt64 <<< ((32 : Int32).toInt64 &&& 63)) ||| ((xs (7 * b + 3)).toInt64 &&& (4294967295))) (((xs (7 * b + 4)).toInt64 <<< ((32 : Int32).toInt64 &&& 63)) ||| ((xs (7 * b + 5)).toInt64 &&& (4294967295))) (xs (7 * b + 6))
  have K1 : hpK h1 (c + 66) = some (9, 0) := by unfold f_X9_point at e2; exact getI_get e2
  refine ⟨h2, ?_, I2⟩
  conv => lhs; unfold f_L_law_18
  rw [if_neg lt, s0, Option.bind_some, ew, if_neg (by decide), if_neg (by decide), if_neg (by decide), if_neg (by decide), if_neg (by decide), if_neg (by decide), if_pos (by decide), s1, Option.bind_some, s2, Option.bind_some, s3, Option.bind_some, s4, Option.bind_some, s5, Option.bind_some, s6, Option.bind_some, ck_ok KK.1, Option.bind_some, e1, bnd_some, Option.bind_some, Option.bind_some, Option.bind_some, Option.bind_some, Option.bind_some, Option.bind_some, ck_ok K1, Option.bind_some, e2, bnd_some, if_pos rfl]
  unfold f_L_law_1511
  rw [nx]
set_option maxHeartbeats 4000000 in
set_option maxRecDepth 100000 in
theorem lw_many {xs : Nat → Int32} {L c b n : Nat} {h : Hp} (hL : L ≤ 448) (hb : 7 * b + 7 ≤ L) (I : INV b h c) (ew : (xs (7 * b) &&& 31) = nI 6) : ∃ h2, f_L_law_18 xs L (n + 1) (some c) (some (c + 66)) (nI (7 * b)) h = f_L_law_18 xs L n (some c) (some (c + 66)) (nI (7 * (b + 1))) h2 ∧ INV (b + 1) h2 c := by
  obtain ⟨lt, s0, s1, s2, s3, s4, s5, s6, nx⟩ := lw_pre (xs := xs) hL hb
  have KK := inv_K I
  obtain ⟨a, h1, h2, e1, e2, I2⟩ := op_many I (xs (7 * b + 1))
  have K1 : hpK h1 (c + 66) = some (9, 0) := k9_many KK.2 e1 e2
  refine ⟨h2, ?_, I2⟩
  conv => lhs; unfold f_L_law_18
  rw [if_neg lt, s0, Option.bind_some, ew, if_neg (by decide), if_neg (by decide), if_neg (by decide), if_neg (by decide), if_neg (by decide), if_neg (by decide), if_neg (by decide), if_pos (by decide), s1, Option.bind_some, ck_ok KK.1, Option.bind_some, e1, bnd_some, Option.bind_some, ck_ok K1, Option.bind_some, e2, bnd_some, if_pos rfl]
  unfold f_L_law_1511
  rw [nx]
set_option maxHeartbeats 4000000 in
set_option maxRecDepth 100000 in
theorem lw_run {xs : Nat → Int32} {L c b n : Nat} {h : Hp} (hL : L ≤ 448) (hb : 7 * b + 7 ≤ L) (I : INV b h c) (ew : (xs (7 * b) &&& 31) = nI 7) : ∃ h2, f_L_law_18 xs L (n + 1) (some c) (some (c + 66)) (nI (7 * b)) h = f_L_law_18 xs L n (some c) (some (c + 66)) (nI (7 * (b + 1))) h2 ∧ INV (b + 1) h2 c := by
  obtain ⟨lt, s0, s1, s2, s3, s4, s5, s6, nx⟩ := lw_pre (xs := xs) hL hb
  have KK := inv_K I
  obtain ⟨a, h1, h2, e1, e2, I2⟩ := op_run I (xs (7 * b + 1)) (((xs (7 * b + 2)).toInt64 <<< ((32 : Int32).toInt64 &&& 63)) ||| ((xs (7 * b + 3)).toInt64 &&& (4294967295))) (xs (7 * b + 4))
  have K1 : hpK h1 (c + 66) = some (9, 0) := by unfold f_X9_run at e2; exact getI_get e2
  refine ⟨h2, ?_, I2⟩
  conv => lhs; unfold f_L_law_18
  rw [if_neg lt, s0, Option.bind_some, ew, if_neg (by decide), if_neg (by decide), if_neg (by decide), if_neg (by decide), if_neg (by decide), if_neg (by decide), if_neg (by decide), if_neg (by decide), if_pos (by decide), s1, Option.bind_some, s2, Option.bind_some, s3, Option.bind_some, s4, Option.bind_some, ck_ok KK.1, Option.bind_some, e1, bnd_some, Option.bind_some, Option.bind_some, Option.bind_some, Option.bind_some, ck_ok K1, Option.bind_some, e2, bnd_some, if_pos rfl]
  unfold f_L_law_1511
  rw [nx]
set_option maxHeartbeats 4000000 in
set_option maxRecDepth 100000 in
theorem lw_set {xs : Nat → Int32} {L c b n : Nat} {h : Hp} (hL : L ≤ 448) (hb : 7 * b + 7 ≤ L) (I : INV b h c) (ew : (xs (7 * b) &&& 31) = nI 8) : ∃ h2, f_L_law_18 xs L (n + 1) (some c) (some (c + 66)) (nI (7 * b)) h = f_L_law_18 xs L n (some c) (some (c + 66)) (nI (7 * (b + 1))) h2 ∧ INV (b + 1) h2 c := by
  obtain ⟨lt, s0, s1, s2, s3, s4, s5, s6, nx⟩ := lw_pre (xs := xs) hL hb
  have KK := inv_K I
  obtain ⟨a, h1, h2, e1, e2, I2⟩ := op_set I (xs (7 * b + 1)) (xs (7 * b + 2)) (((xs (7 * b + 3)).toInt64 <<< ((32 : Int32).toInt64 &&& 63)) ||| ((xs (7 * b + 4)).toInt64 &&& (4294967295))) (xs (7 * b + 5))
  have K1 : hpK h1 (c + 66) = some (9, 0) := by unfold f_X9_set at e2; exact ck_get e2
  refine ⟨h2, ?_, I2⟩
  conv => lhs; unfold f_L_law_18
  rw [if_neg lt, s0, Option.bind_some, ew, if_neg (by decide), if_neg (by decide), if_neg (by decide), if_neg (by decide), if_neg (by decide), if_neg (by decide), if_neg (by decide), if_neg (by decide), if_neg (by decide), if_pos (by decide), s1, Option.bind_some, s2, Option.bind_some, s3, Option.bind_some, s4, Option.bind_some, s5, Option.bind_some, ck_ok KK.1, Option.bind_some, e1, bnd_some, Option.bind_some, Option.bind_some, Option.bind_some, Option.bind_some, Option.bind_some, ck_ok K1, Option.bind_some, e2, bnd_some, if_pos rfl]
  unfold f_L_law_1511
  rw [nx]
