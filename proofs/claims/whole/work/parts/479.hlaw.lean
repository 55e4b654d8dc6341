set_option maxHeartbeats 4000000 in
set_option maxRecDepth 100000 in
theorem lw_skip {xs : Nat → Int32} {L c b n : Nat} {h : Hp} (hL : L ≤ 448) (hb : 7 * b + 7 ≤ L) (I : INV b h c) (ew : (xs (7 * b) &&& 31) < 0 ∨ nI 26 ≤ (xs (7 * b) &&& 31)) : ∃ h2, f_L_law_18 xs L (n + 1) (some c) (some (c + 66)) (nI (7 * b)) h = f_L_law_18 xs L n (some c) (some (c + 66)) (nI (7 * (b + 1))) h2 ∧ INV (b + 1) h2 c := by
  obtain ⟨lt, s0, s1, s2, s3, s4, s5, s6, nx⟩ := lw_pre (xs := xs) hL hb
  refine ⟨h, ?_, inv_mono (by omega) I⟩
  conv => lhs; unfold f_L_law_18
  rw [if_neg lt, s0, Option.bind_some, if_pos (by
    rw [Int32.lt_iff_toInt_lt, Int32.le_iff_toInt_le, ni_toInt (by omega)] at ew
    have e : (0 : Int32).toInt = 0 := by decide
    omega)]
  unfold f_L_law_1511
  rw [nx]
theorem lw_any {xs : Nat → Int32} {L c b n : Nat} {h : Hp} (hL : L ≤ 448) (hb : 7 * b + 7 ≤ L) (I : INV b h c) : ∃ h2, f_L_law_18 xs L (n + 1) (some c) (some (c + 66)) (nI (7 * b)) h = f_L_law_18 xs L n (some c) (some (c + 66)) (nI (7 * (b + 1))) h2 ∧ INV (b + 1) h2 c := by
  rcases in_cases (xs (7 * b) &&& 31) (N := 26) (by omega) with ⟨k, hk, ew⟩ | ew
  · rcases (show k = 0 ∨ k = 1 ∨ k = 2 ∨ k = 3 ∨ k = 4 ∨ k = 5 ∨ k = 6 ∨ k = 7 ∨ k = 8 ∨ k = 9 ∨ k = 10 ∨ k = 11 ∨ k = 12 ∨ k = 13 ∨ k = 14 ∨ k = 15 ∨ k = 16 ∨ k = 17 ∨ k = 18 ∨ k = 19 ∨ k = 20 ∨ k = 21 ∨ k = 22 ∨ k = 23 ∨ k = 24 ∨ k = 25 by omega) with rfl | rfl | rfl | rfl | rfl | rfl | rfl | rfl | rfl | rfl | rfl | rfl | rfl | rfl | rfl | rfl | rfl | rfl | rfl | rfl | rfl | rfl | rfl | rfl | rfl | rfl
    · exact lw_law hL hb I ew
    · exact lw_constant hL hb I ew
    · exact lw_node hL hb I ew
    · exact lw_side hL hb I ew
    · exact lw_signal hL hb I ew
    · exact lw_point hL hb I ew
    · exact lw_many hL hb I ew
    · exact lw_run hL hb I ew
    · exact lw_set hL hb I ew
    · exact lw_method hL hb I ew
    · exact lw_length hL hb I ew
    · exact lw_tolerance hL hb I ew
    · exact lw_event hL hb I ew
    · exact lw_step hL hb I ew
    · exact lw_to hL hb I ew
    · exact lw_state hL hb I ew
    · exact lw_clock hL hb I ew
    · exact lw_count hL hb I ew
    · exact lw_stage hL hb I ew
    · exact lw_value hL hb I ew
    · exact lw_between hL hb I ew
    · exact lw_fired hL hb I ew
    · exact lw_halves hL hb I ew
    · exact lw_keep hL hb I ew
    · exact lw_back hL hb I ew
    · exact lw_unlike hL hb I ew
  · exact lw_skip hL hb I ew
theorem lw_loop {xs : Nat → Int32} {L c : Nat} (hL : L ≤ 448) : ∀ n b h, b + n = 66 → 7 * b ≤ 448 → INV b h c → ∃ hh, f_L_law_18 xs L n (some c) (some (c + 66)) (nI (7 * b)) h = some (1, hh) := by
  intro n
  induction n with
  | zero => intro b h e hb; omega
  | succ n ih =>
    intro b h e hb I
    by_cases z : L < 7 * b + 7
    · refine ⟨h, ?_⟩
      unfold f_L_law_18
      rw [if_pos ((sub7_lt hL (by omega)).mpr z)]
    · obtain ⟨h2, e2, I2⟩ := lw_any (xs := xs) (n := n) hL (by omega) I
      rw [e2]
      exact ih (b + 1) h2 (by omega) (by omega) I2
theorem hlaw_all (L sz : Nat) (xs : Nat → Int32) (hL : L ≤ 448) : ∃ hh, f_L_law xs L (hp0 sz) = some (1, hh) := by
  obtain ⟨h1, h2, e1, s1, e2, I⟩ := inv_start sz
  unfold f_L_law
  rw [newo_def, show hpS (hp0 sz) = sz from rfl, e1, bnd_some, newo_def, s1, e2, bnd_some]
  exact lw_loop hL 66 0 h2 (by omega) (by omega) I
