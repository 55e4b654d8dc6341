def scr (xs : Nat → Int32) (L : Nat) (i : Int32) : Option Int32 := if i < 0 ∨ L ≤ i.toNatClampNeg then none else some (xs i.toNatClampNeg)
theorem ab_scr {p : Program} {l : Launch} {e : Env} {R : Room} {s : State} {m : MethodId} {args : Array Value} {below : List Frame} {meth : Method} {c : Code} {H : Heap} {locs : List Loc} {cells slots : Nat} {Q : State → Prop} {cc : ByteArray} {pc : Nat} {ls : Array Slot} {rest : List Value} {D : va_G} {cA : Nat → ClassId} {sz nL b L : Nat} {own : String} {h : Hp} {xs : Nat → Int32} {γ : Type} {i : Int32} {f : Int32 → Option γ} {res : γ} (X : ab_X p s m args meth c cc nL own D cA sz) (S : ab_H D cA sz h s H locs) (hX : va_X b L xs s s.heap) (hbl : b < s.heap.size) (hbA : ¬ sz ≤ b) (hF : (scr xs L i).bind f = some res) (hdg : decode cc pc = .ok (.iaload, 1))
    (kk : ∀ x : Int32, f x = some res → W p l e R s m args below meth c H locs cells slots Q (F0 m (pc + 1) ls (.int x :: rest))) : W p l e R s m args below meth c H locs cells slots Q (F0 m pc ls (.int i :: .ref b :: rest)) := by
  obtain ⟨x, h1, hG⟩ := bind_out hF
  unfold scr at h1
  split at h1
  · cases h1
  · rename_i hn
    cases h1
    exact va_sld X.1 X.2.1 hX hbl hbA S.2 hn hdg (kk _ hG)
def f_L_law_1511 (xs : Nat → Int32) (L : Nat) (k : Option Nat → Option Nat → Int32 → Hp → Option (Int32 × Hp)) (v1 : Option Nat) (v2 : Option Nat) (v3 : Int32) (h : Hp) : Option (Int32 × Hp) :=
  k v1 v2 (v3 + 7) h
set_option maxHeartbeats 4000000 in
set_option maxRecDepth 100000 in
theorem w_L_law_1511 {p : Program} {l : Launch} {e : Env} {s : State} {m : MethodId} {below : List Frame} {meth : Method} {c : Code} {D : va_G} {cA : Nat → ClassId} {sz b L : Nat} {xs : Nat → Int32} {hh : Hp} {n cells slots : Nat} {k : Option Nat → Option Nat → Int32 → Hp → Option (Int32 × Hp)} (X : ab_X p s m #[Value.ref b] meth c cL_law 4 RL D cA sz) (hr : meth.sig.returnType = ret) (hX : va_X b L xs s s.heap) (hbl : b < s.heap.size) (hbA : ¬ sz ≤ b) (hsz : s.heap.size ≤ sz) (hk : ∀ (cells slots : Nat) (_ : cells + 44 * n ≤ 3034) (_ : slots + 30057 * n ≤ 2087906) (v1 : Option Nat) (v2 : Option Nat) (v3 : Int32) (h : Hp) (H : Heap) (locs : List Loc) (ls : Array Slot), ab_H D cA sz h s H locs → lv_has ls 4 [(0, .ref b), (1, va_rf v1), (2, va_rf v2), (3, .int v3)] → k v1 v2 v3 h = some (1, hh) → W p l e room_1 s m #[Value.ref b] below meth c H locs cells slots (lw_Z below #[Value.ref b] s) (F0 m 18 ls [])) (_ : cells + 44 * n ≤ 3034) (_ : slots + 30057 * n ≤ 2087906) {H : Heap} {locs : List Loc} {ls : Array Slot} {v1 : Option Nat} {v2 : Option Nat} {v3 : Int32} {h : Hp} (S : ab_H D cA sz h s H locs) (hl : lv_has ls 4 [(0, .ref b), (1, va_rf v1), (2, va_rf v2), (3, .int v3)]) (hF : f_L_law_1511 xs L k v1 v2 v3 h = some (1, hh)) : W p l e room_1 s m #[Value.ref b] below meth c H locs cells slots (lw_Z below #[Value.ref b] s) (F0 m 1511 ls []) := by
  unfold f_L_law_1511 at hF
  refine lv_iinc (v := v3 + 7) (lv' := [(3, .int (v3 + 7)), (0, .ref b), (1, va_rf v1), (2, va_rf v2)]) X.1 X.2.1 dL_law_1511 hl (k := 3) rfl (by rfl) (by decide) (by simp [ab_cat, ab_cI, ab_cJ, ab_cD, ab_cF, ab_cA]) (fun ls hl => ?_)
  refine lv_goto (tgt := 18) X.1 X.2.1 dL_law_1514 (by decide) ?_
  exact hk _ _ (by omega) (by omega) _ _ _ _ _ _ _ S (lv_sub hl [1, 2, 3, 0] rfl) hF
def f_L_law_18 (xs : Nat → Int32) (L : Nat) : Nat → Option Nat → Option Nat → Int32 → Hp → Option (Int32 × Hp)
  | 0, _, _, _, _ => none
  | n + 1, v1, v2, v3, h => if ((Int32.ofNat L) - 7) < v3 then
      some (1, h)
    else
      (scr xs L v3).bind fun x2 =>
      if (x2 &&& 31).toInt < 0 ∨ 25 < (x2 &&& 31).toInt then
        f_L_law_1511 xs L (f_L_law_18 xs L n) v1 v2 v3 h
      else if (x2 &&& 31) = 0 then
        (scr xs L (v3 + 1)).bind fun x5 =>
        (scr xs L (v3 + 2)).bind fun x6 =>
        (ab_ck h v1 (8, 0)).bind fun a10 =>
        bnd (f_X8_law a10 x5 x6 h) fun x7 h8 =>
        (scr xs L (v3 + 1)).bind fun x12 =>
        (scr xs L (v3 + 2)).bind fun x13 =>
        (ab_ck h8 v2 (9, 0)).bind fun a17 =>
        bnd (f_X9_law a17 x12 x13 h8) fun x14 h15 =>
        if x7 = x14 then
          f_L_law_1511 xs L (f_L_law_18 xs L n) v1 v2 v3 h15
        else
          some (0, h15)
      else if (x2 &&& 31) = 1 then
        (scr xs L (v3 + 1)).bind fun x21 =>
        (scr xs L (v3 + 2)).bind fun x22 =>
        (scr xs L (v3 + 3)).bind fun x23 =>
        (scr xs L (v3 + 4)).bind fun x24 =>
        (ab_ck h v1 (8, 0)).bind fun a28 =>
        bnd (f_X8_constant a28 x21 ((x22.toInt64 <<< ((32 : Int32).toInt64 &&& 63)) ||| (x23.toInt64 &&& (4294967295))) x24 h) fun x25 h26 =>
        (scr xs L (v3 + 1)).bind fun x30 =>
        (scr xs L (v3 + 2)).bind fun x31 =>
        (scr xs L (v3 + 3)).bind fun x32 =>
        (scr xs L (v3 + 4)).bind fun x33 =>
        (ab_ck h26 v2 (9, 0)).bind fun a37 =>
        bnd (f_X9_constant a37 x30 ((x31.toInt64 <<< ((32 : Int32).toInt64 &&& 63)) ||| (x32.toInt64 &&& (4294967295))) x33 h26) fun x34 h35 =>
        if x25 = x34 then
          f_L_law_1511 xs L (f_L_law_18 xs L n) v1 v2 v3 h35
        else
          some (0, h35)
      else if (x2 &&& 31) = 2 then
        (scr xs L (v3 + 1)).bind fun x41 =>
        (scr xs L (v3 + 2)).bind fun x42 =>
        (scr xs L (v3 + 3)).bind fun x43 =>
        (scr xs L (v3 + 4)).bind fun x44 =>
        (scr xs L (v3 + 5)).bind fun x45 =>
        (ab_ck h v1 (8, 0)).bind fun a49 =>
        bnd (f_X8_node a49 x41 x42 x43 x44 x45 h) fun x46 h47 =>
        (scr xs L (v3 + 1)).bind fun x51 =>
        (scr xs L (v3 + 2)).bind fun x52 =>
        (scr xs L (v3 + 3)).bind fun x53 =>
        (scr xs L (v3 + 4)).bind fun x54 =>
        (scr xs L (v3 + 5)).bind fun x55 =>
        (ab_ck h47 v2 (9, 0)).bind fun a59 =>
        bnd (f_X9_node a59 x51 x52 x53 x54 x55 h47) fun x56 h57 =>
        if x46 = x56 then
          f_L_law_1511 xs L (f_L_law_18 xs L n) v1 v2 v3 h57
        else
          some (0, h57)
      else if (x2 &&& 31) = 3 then
        (scr xs L (v3 + 1)).bind fun x63 =>
        (scr xs L (v3 + 2)).bind fun x64 =>
        (scr xs L (v3 + 3)).bind fun x65 =>
        (ab_ck h v1 (8, 0)).bind fun a69 =>
        bnd (f_X8_side a69 x63 x64 x65 h) fun x66 h67 =>
        (scr xs L (v3 + 1)).bind fun x71 =>
        (scr xs L (v3 + 2)).bind fun x72 =>
        (scr xs L (v3 + 3)).bind fun x73 =>
        (ab_ck h67 v2 (9, 0)).bind fun a77 =>
        bnd (f_X9_side a77 x71 x72 x73 h67) fun x74 h75 =>
        if x66 = x74 then
          f_L_law_1511 xs L (f_L_law_18 xs L n) v1 v2 v3 h75
        else
          some (0, h75)
      else if (x2 &&& 31) = 4 then
        (scr xs L (v3 + 1)).bind fun x81 =>
        (ab_ck h v1 (8, 0)).bind fun a85 =>
        bnd (f_X8_signal a85 x81 h) fun x82 h83 =>
        (scr xs L (v3 + 1)).bind fun x87 =>
        (ab_ck h83 v2 (9, 0)).bind fun a91 =>
        bnd (f_X9_signal a91 x87 h83) fun x88 h89 =>
        if x82 = x88 then
          f_L_law_1511 xs L (f_L_law_18 xs L n) v1 v2 v3 h89
        else
          some (0, h89)
      else if (x2 &&& 31) = 5 then
        (scr xs L (v3 + 1)).bind fun x95 =>
        (scr xs L (v3 + 2)).bind fun x96 =>
        (scr xs L (v3 + 3)).bind fun x97 =>
        (scr xs L (v3 + 4)).bind fun x98 =>
        (scr xs L (v3 + 5)).bind fun x99 =>
        (scr xs L (v3 + 6)).bind fun x100 =>
        (ab_ck h v1 (8, 0)).bind fun a104 =>
        bnd (f_X8_point a104 x95 ((x96.toInt64 <<< ((32 : Int32).toInt64 &&& 63)) ||| (x97.toInt64 &&& (4294967295))) ((x98.toInt64 <<< ((32 : Int32).toInt64 &&& 63)) ||| (x99.toInt64 &&& (4294967295))) x100 h) fun x101 h102 =>
        (scr xs L (v3 + 1)).bind fun x106 =>
        (scr xs L (v3 + 2)).bind fun x107 =>
        (scr xs L (v3 + 3)).bind fun x108 =>
        (scr xs L (v3 + 4)).bind fun x109 =>
        (scr xs L (v3 + 5)).bind fun x110 =>
        (scr xs L (v3 + 6)).bind fun x111 =>
        (ab_ck h102 v2 (9, 0)).bind fun a115 =>
        bnd (f_X9_point a115 x106 ((x107.toInt64 <<< ((32 : Int32).toInt64 &&& 63)) ||| (x108.toInt64 &&& (4294967295))) ((x109.toInt64 <<< ((32 : Int32).toInt64 &&& 63)) ||| (x110.toInt64 &&& (4294967295))) x111 h102) fun x112 h113 =>
        if x101 = x112 then
          f_L_law_1511 xs L (f_L_law_18 xs L n) v1 v2 v3 h113
        else
          some (0, h113)
      else if (x2 &&& 31) = 6 then
        (scr xs L (v3 + 1)).bind fun x119 =>
        (ab_ck h v1 (8, 0)).bind fun a123 =>
        bnd (f_X8_many a123 x119 h) fun x120 h121 =>
        (scr xs L (v3 + 1)).bind fun x125 =>
        (ab_ck h121 v2 (9, 0)).bind fun a129 =>
        bnd (f_X9_many a129 x125 h121) fun x126 h127 =>
        if x120 = x126 then
          f_L_law_1511 xs L (f_L_law_18 xs L n) v1 v2 v3 h127
        else
          some (0, h127)
      else if (x2 &&& 31) = 7 then
        (scr xs L (v3 + 1)).bind fun x133 =>
        (scr xs L (v3 + 2)).bind fun x134 =>
        (scr xs L (v3 + 3)).bind fun x135 =>
        (scr xs L (v3 + 4)).bind fun x136 =>
        (ab_ck h v1 (8, 0)).bind fun a140 =>
        bnd (f_X8_run a140 x133 ((x134.toInt64 <<< ((32 : Int32).toInt64 &&& 63)) ||| (x135.toInt64 &&& (4294967295))) x136 h) fun x137 h138 =>
        (scr xs L (v3 + 1)).bind fun x142 =>
        (scr xs L (v3 + 2)).bind fun x143 =>
        (scr xs L (v3 + 3)).bind fun x144 =>
        (scr xs L (v3 + 4)).bind fun x145 =>
        (ab_ck h138 v2 (9, 0)).bind fun a149 =>
        bnd (f_X9_run a149 x142 ((x143.toInt64 <<< ((32 : Int32).toInt64 &&& 63)) ||| (x144.toInt64 &&& (4294967295))) x145 h138) fun x146 h147 =>
        if x137 = x146 then
          f_L_law_1511 xs L (f_L_law_18 xs L n) v1 v2 v3 h147
        else
          some (0, h147)
      else if (x2 &&& 31) = 8 then
        (scr xs L (v3 + 1)).bind fun x153 =>
        (scr xs L (v3 + 2)).bind fun x154 =>
        (scr xs L (v3 + 3)).bind fun x155 =>
        (scr xs L (v3 + 4)).bind fun x156 =>
        (scr xs L (v3 + 5)).bind fun x157 =>
        (ab_ck h v1 (8, 0)).bind fun a161 =>
        bnd (f_X8_set a161 x153 x154 ((x155.toInt64 <<< ((32 : Int32).toInt64 &&& 63)) ||| (x156.toInt64 &&& (4294967295))) x157 h) fun x158 h159 =>
        (scr xs L (v3 + 1)).bind fun x163 =>
        (scr xs L (v3 + 2)).bind fun x164 =>
        (scr xs L (v3 + 3)).bind fun x165 =>
        (scr xs L (v3 + 4)).bind fun x166 =>
        (scr xs L (v3 + 5)).bind fun x167 =>
        (ab_ck h159 v2 (9, 0)).bind fun a171 =>
        bnd (f_X9_set a171 x163 x164 ((x165.toInt64 <<< ((32 : Int32).toInt64 &&& 63)) ||| (x166.toInt64 &&& (4294967295))) x167 h159) fun x168 h169 =>
        if x158 = x168 then
          f_L_law_1511 xs L (f_L_law_18 xs L n) v1 v2 v3 h169
        else
          some (0, h169)
      else if (x2 &&& 31) = 9 then
        (scr xs L (v3 + 1)).bind fun x175 =>
        (scr xs L (v3 + 2)).bind fun x176 =>
        (ab_ck h v1 (8, 0)).bind fun a180 =>
        bnd (f_X8_method a180 x175 x176 h) fun x177 h178 =>
        (scr xs L (v3 + 1)).bind fun x182 =>
        (scr xs L (v3 + 2)).bind fun x183 =>
        (ab_ck h178 v2 (9, 0)).bind fun a187 =>
        bnd (f_X9_method a187 x182 x183 h178) fun x184 h185 =>
        if x177 = x184 then
          f_L_law_1511 xs L (f_L_law_18 xs L n) v1 v2 v3 h185
        else
          some (0, h185)
      else if (x2 &&& 31) = 10 then
        (scr xs L (v3 + 1)).bind fun x191 =>
        (scr xs L (v3 + 2)).bind fun x192 =>
        (scr xs L (v3 + 3)).bind fun x193 =>
        (scr xs L (v3 + 4)).bind fun x194 =>
        (ab_ck h v1 (8, 0)).bind fun a198 =>
        bnd (f_X8_length a198 x191 ((x192.toInt64 <<< ((32 : Int32).toInt64 &&& 63)) ||| (x193.toInt64 &&& (4294967295))) x194 h) fun x195 h196 =>
        (scr xs L (v3 + 1)).bind fun x200 =>
        (scr xs L (v3 + 2)).bind fun x201 =>
        (scr xs L (v3 + 3)).bind fun x202 =>
        (scr xs L (v3 + 4)).bind fun x203 =>
        (ab_ck h196 v2 (9, 0)).bind fun a207 =>
        bnd (f_X9_length a207 x200 ((x201.toInt64 <<< ((32 : Int32).toInt64 &&& 63)) ||| (x202.toInt64 &&& (4294967295))) x203 h196) fun x204 h205 =>
        if x195 = x204 then
          f_L_law_1511 xs L (f_L_law_18 xs L n) v1 v2 v3 h205
        else
          some (0, h205)
      else if (x2 &&& 31) = 11 then
        (scr xs L (v3 + 1)).bind fun x211 =>
        (scr xs L (v3 + 2)).bind fun x212 =>
        (scr xs L (v3 + 3)).bind fun x213 =>
        (scr xs L (v3 + 4)).bind fun x214 =>
        (scr xs L (v3 + 5)).bind fun x215 =>
        (scr xs L (v3 + 6)).bind fun x216 =>
        (ab_ck h v1 (8, 0)).bind fun a220 =>
        bnd (f_X8_tolerance a220 x211 ((x212.toInt64 <<< ((32 : Int32).toInt64 &&& 63)) ||| (x213.toInt64 &&& (4294967295))) ((x214.toInt64 <<< ((32 : Int32).toInt64 &&& 63)) ||| (x215.toInt64 &&& (4294967295))) x216 h) fun x217 h218 =>
        (scr xs L (v3 + 1)).bind fun x222 =>
        (scr xs L (v3 + 2)).bind fun x223 =>
        (scr xs L (v3 + 3)).bind fun x224 =>
        (scr xs L (v3 + 4)).bind fun x225 =>
        (scr xs L (v3 + 5)).bind fun x226 =>
        (scr xs L (v3 + 6)).bind fun x227 =>
        (ab_ck h218 v2 (9, 0)).bind fun a231 =>
        bnd (f_X9_tolerance a231 x222 ((x223.toInt64 <<< ((32 : Int32).toInt64 &&& 63)) ||| (x224.toInt64 &&& (4294967295))) ((x225.toInt64 <<< ((32 : Int32).toInt64 &&& 63)) ||| (x226.toInt64 &&& (4294967295))) x227 h218) fun x228 h229 =>
        if x217 = x228 then
          f_L_law_1511 xs L (f_L_law_18 xs L n) v1 v2 v3 h229
        else
          some (0, h229)
      else if (x2 &&& 31) = 12 then
        (scr xs L (v3 + 1)).bind fun x235 =>
        (scr xs L (v3 + 2)).bind fun x236 =>
        (scr xs L (v3 + 3)).bind fun x237 =>
        (scr xs L (v3 + 4)).bind fun x238 =>
        (scr xs L (v3 + 5)).bind fun x239 =>
        (ab_ck h v1 (8, 0)).bind fun a243 =>
        bnd (f_X8_event a243 x235 x236 x237 x238 x239 h) fun x240 h241 =>
        (scr xs L (v3 + 1)).bind fun x245 =>
        (scr xs L (v3 + 2)).bind fun x246 =>
        (scr xs L (v3 + 3)).bind fun x247 =>
        (scr xs L (v3 + 4)).bind fun x248 =>
        (scr xs L (v3 + 5)).bind fun x249 =>
        (ab_ck h241 v2 (9, 0)).bind fun a253 =>
        bnd (f_X9_event a253 x245 x246 x247 x248 x249 h241) fun x250 h251 =>
        if x240 = x250 then
          f_L_law_1511 xs L (f_L_law_18 xs L n) v1 v2 v3 h251
        else
          some (0, h251)
      else if (x2 &&& 31) = 13 then
        (scr xs L (v3 + 1)).bind fun x257 =>
        (ab_ck h v1 (8, 0)).bind fun a261 =>
        bnd (f_X8_step a261 x257 h) fun x258 h259 =>
        (scr xs L (v3 + 1)).bind fun x263 =>
        (ab_ck h259 v2 (9, 0)).bind fun a267 =>
        bnd (f_X9_step a267 x263 h259) fun x264 h265 =>
        if x258 = x264 then
          f_L_law_1511 xs L (f_L_law_18 xs L n) v1 v2 v3 h265
        else
          some (0, h265)
      else if (x2 &&& 31) = 14 then
        (scr xs L (v3 + 1)).bind fun x271 =>
        (scr xs L (v3 + 2)).bind fun x272 =>
        (scr xs L (v3 + 3)).bind fun x273 =>
        (scr xs L (v3 + 4)).bind fun x274 =>
        (scr xs L (v3 + 5)).bind fun x275 =>
        (ab_ck h v1 (8, 0)).bind fun a279 =>
        bnd (f_X8_to a279 x271 ((x272.toInt64 <<< ((32 : Int32).toInt64 &&& 63)) ||| (x273.toInt64 &&& (4294967295))) x274 x275 h) fun x276 h277 =>
        (scr xs L (v3 + 1)).bind fun x281 =>
        (scr xs L (v3 + 2)).bind fun x282 =>
        (scr xs L (v3 + 3)).bind fun x283 =>
        (scr xs L (v3 + 4)).bind fun x284 =>
        (scr xs L (v3 + 5)).bind fun x285 =>
        (ab_ck h277 v2 (9, 0)).bind fun a289 =>
        bnd (f_X9_to a289 x281 ((x282.toInt64 <<< ((32 : Int32).toInt64 &&& 63)) ||| (x283.toInt64 &&& (4294967295))) x284 x285 h277) fun x286 h287 =>
        if x276 = x286 then
          f_L_law_1511 xs L (f_L_law_18 xs L n) v1 v2 v3 h287
        else
          some (0, h287)
      else if (x2 &&& 31) = 15 then
        (scr xs L (v3 + 1)).bind fun x293 =>
        (scr xs L (v3 + 2)).bind fun x294 =>
        (ab_ck h v1 (8, 0)).bind fun a298 =>
        bnd (f_X8_state a298 x293 x294 h) fun x295 h296 =>
        (scr xs L (v3 + 1)).bind fun x300 =>
        (scr xs L (v3 + 2)).bind fun x301 =>
        (ab_ck h296 v2 (9, 0)).bind fun a305 =>
        bnd (f_X9_state a305 x300 x301 h296) fun x302 h303 =>
        if (lg_cmp x295 x302) = 0 then
          f_L_law_1511 xs L (f_L_law_18 xs L n) v1 v2 v3 h303
        else
          some (0, h303)
      else if (x2 &&& 31) = 16 then
        (scr xs L (v3 + 1)).bind fun x309 =>
        (scr xs L (v3 + 2)).bind fun x310 =>
        (ab_ck h v1 (8, 0)).bind fun a314 =>
        bnd (f_X8_clock a314 x309 x310 h) fun x311 h312 =>
        (scr xs L (v3 + 1)).bind fun x316 =>
        (scr xs L (v3 + 2)).bind fun x317 =>
        (ab_ck h312 v2 (9, 0)).bind fun a321 =>
        bnd (f_X9_clock a321 x316 x317 h312) fun x318 h319 =>
        if (lg_cmp x311 x318) = 0 then
          f_L_law_1511 xs L (f_L_law_18 xs L n) v1 v2 v3 h319
        else
          some (0, h319)
      else if (x2 &&& 31) = 17 then
        (scr xs L (v3 + 1)).bind fun x325 =>
        (scr xs L (v3 + 2)).bind fun x326 =>
        (ab_ck h v1 (8, 0)).bind fun a330 =>
        bnd (f_X8_count a330 x325 x326 h) fun x327 h328 =>
        (scr xs L (v3 + 1)).bind fun x332 =>
        (scr xs L (v3 + 2)).bind fun x333 =>
        (ab_ck h328 v2 (9, 0)).bind fun a337 =>
        bnd (f_X9_count a337 x332 x333 h328) fun x334 h335 =>
        if x327 = x334 then
          f_L_law_1511 xs L (f_L_law_18 xs L n) v1 v2 v3 h335
        else
          some (0, h335)
      else if (x2 &&& 31) = 18 then
        (scr xs L (v3 + 1)).bind fun x341 =>
        (scr xs L (v3 + 2)).bind fun x342 =>
        (scr xs L (v3 + 3)).bind fun x343 =>
        (ab_ck h v1 (8, 0)).bind fun a347 =>
        bnd (f_X8_stage a347 x341 x342 x343 h) fun x344 h345 =>
        (scr xs L (v3 + 1)).bind fun x349 =>
        (scr xs L (v3 + 2)).bind fun x350 =>
        (scr xs L (v3 + 3)).bind fun x351 =>
        (ab_ck h345 v2 (9, 0)).bind fun a355 =>
        bnd (f_X9_stage a355 x349 x350 x351 h345) fun x352 h353 =>
        if (lg_cmp x344 x352) = 0 then
          f_L_law_1511 xs L (f_L_law_18 xs L n) v1 v2 v3 h353
        else
          some (0, h353)
      else if (x2 &&& 31) = 19 then
        (scr xs L (v3 + 1)).bind fun x359 =>
        (scr xs L (v3 + 2)).bind fun x360 =>
        (ab_ck h v1 (8, 0)).bind fun a364 =>
        bnd (f_X8_value a364 x359 x360 h) fun x361 h362 =>
        (scr xs L (v3 + 1)).bind fun x366 =>
        (scr xs L (v3 + 2)).bind fun x367 =>
        (ab_ck h362 v2 (9, 0)).bind fun a371 =>
        bnd (f_X9_value a371 x366 x367 h362) fun x368 h369 =>
        if (lg_cmp x361 x368) = 0 then
          f_L_law_1511 xs L (f_L_law_18 xs L n) v1 v2 v3 h369
        else
          some (0, h369)
      else if (x2 &&& 31) = 20 then
        (scr xs L (v3 + 1)).bind fun x375 =>
        (scr xs L (v3 + 2)).bind fun x376 =>
        (scr xs L (v3 + 3)).bind fun x377 =>
        (scr xs L (v3 + 4)).bind fun x378 =>
        (scr xs L (v3 + 5)).bind fun x379 =>
        (ab_ck h v1 (8, 0)).bind fun a383 =>
        bnd (f_X8_between a383 x375 x376 ((x377.toInt64 <<< ((32 : Int32).toInt64 &&& 63)) ||| (x378.toInt64 &&& (4294967295))) x379 h) fun x380 h381 =>
        (scr xs L (v3 + 1)).bind fun x385 =>
        (scr xs L (v3 + 2)).bind fun x386 =>
        (scr xs L (v3 + 3)).bind fun x387 =>
        (scr xs L (v3 + 4)).bind fun x388 =>
        (scr xs L (v3 + 5)).bind fun x389 =>
        (ab_ck h381 v2 (9, 0)).bind fun a393 =>
        bnd (f_X9_between a393 x385 x386 ((x387.toInt64 <<< ((32 : Int32).toInt64 &&& 63)) ||| (x388.toInt64 &&& (4294967295))) x389 h381) fun x390 h391 =>
        if (lg_cmp x380 x390) = 0 then
          f_L_law_1511 xs L (f_L_law_18 xs L n) v1 v2 v3 h391
        else
          some (0, h391)
      else if (x2 &&& 31) = 21 then
        (scr xs L (v3 + 1)).bind fun x397 =>
        (scr xs L (v3 + 2)).bind fun x398 =>
        (scr xs L (v3 + 3)).bind fun x399 =>
        (ab_ck h v1 (8, 0)).bind fun a403 =>
        bnd (f_X8_fired a403 x397 x398 x399 h) fun x400 h401 =>
        (scr xs L (v3 + 1)).bind fun x405 =>
        (scr xs L (v3 + 2)).bind fun x406 =>
        (scr xs L (v3 + 3)).bind fun x407 =>
        (ab_ck h401 v2 (9, 0)).bind fun a411 =>
        bnd (f_X9_fired a411 x405 x406 x407 h401) fun x408 h409 =>
        if (lg_cmp x400 x408) = 0 then
          f_L_law_1511 xs L (f_L_law_18 xs L n) v1 v2 v3 h409
        else
          some (0, h409)
      else if (x2 &&& 31) = 22 then
        (scr xs L (v3 + 1)).bind fun x415 =>
        (scr xs L (v3 + 2)).bind fun x416 =>
        (ab_ck h v1 (8, 0)).bind fun a420 =>
        bnd (f_X8_halves a420 x415 x416 h) fun x417 h418 =>
        (scr xs L (v3 + 1)).bind fun x422 =>
        (scr xs L (v3 + 2)).bind fun x423 =>
        (ab_ck h418 v2 (9, 0)).bind fun a427 =>
        bnd (f_X9_halves a427 x422 x423 h418) fun x424 h425 =>
        if (lg_cmp x417 x424) = 0 then
          f_L_law_1511 xs L (f_L_law_18 xs L n) v1 v2 v3 h425
        else
          some (0, h425)
      else if (x2 &&& 31) = 23 then
        (scr xs L (v3 + 1)).bind fun x431 =>
        (scr xs L (v3 + 2)).bind fun x432 =>
        (ab_ck h v1 (8, 0)).bind fun a436 =>
        bnd (f_X8_keep a436 x431 x432 h) fun x433 h434 =>
        (scr xs L (v3 + 1)).bind fun x438 =>
        (scr xs L (v3 + 2)).bind fun x439 =>
        (ab_ck h434 v2 (9, 0)).bind fun a443 =>
        bnd (f_X9_keep a443 x438 x439 h434) fun x440 h441 =>
        if x433 = x440 then
          f_L_law_1511 xs L (f_L_law_18 xs L n) v1 v2 v3 h441
        else
          some (0, h441)
      else if (x2 &&& 31) = 24 then
        (scr xs L (v3 + 1)).bind fun x447 =>
        (scr xs L (v3 + 2)).bind fun x448 =>
        (ab_ck h v1 (8, 0)).bind fun a452 =>
        bnd (f_X8_back a452 x447 x448 h) fun x449 h450 =>
        (scr xs L (v3 + 1)).bind fun x454 =>
        (scr xs L (v3 + 2)).bind fun x455 =>
        (ab_ck h450 v2 (9, 0)).bind fun a459 =>
        bnd (f_X9_back a459 x454 x455 h450) fun x456 h457 =>
        if x449 = x456 then
          f_L_law_1511 xs L (f_L_law_18 xs L n) v1 v2 v3 h457
        else
          some (0, h457)
      else if (x2 &&& 31) = 25 then
        (scr xs L (v3 + 1)).bind fun x463 =>
        (scr xs L (v3 + 2)).bind fun x464 =>
        (ab_ck h v1 (8, 0)).bind fun a468 =>
        bnd (f_X8_unlike a468 x463 x464 h) fun x465 h466 =>
        (scr xs L (v3 + 1)).bind fun x470 =>
        (scr xs L (v3 + 2)).bind fun x471 =>
        (ab_ck h466 v2 (9, 0)).bind fun a475 =>
        bnd (f_X9_unlike a475 x470 x471 h466) fun x472 h473 =>
        if x465 = x472 then
          f_L_law_1511 xs L (f_L_law_18 xs L n) v1 v2 v3 h473
        else
          some (0, h473)
      else none
set_option maxHeartbeats 4000000 in
set_option maxRecDepth 100000 in
theorem w_L_law_18 {p : Program} {l : Launch} {e : Env} {s : State} {m : MethodId} {below : List Frame} {meth : Method} {c : Code} {D : va_G} {cA : Nat → ClassId} {sz b L : Nat} {xs : Nat → Int32} {hh : Hp} (X : ab_X p s m #[Value.ref b] meth c cL_law 4 RL D cA sz) (hr : meth.sig.returnType = ret) (hX : va_X b L xs s s.heap) (hbl : b < s.heap.size) (hbA : ¬ sz ≤ b) (hsz : s.heap.size ≤ sz) (n : Nat) : ∀ (cells slots : Nat) (_ : cells + 44 * n ≤ 3034) (_ : slots + 30057 * n ≤ 2087906) (v1 : Option Nat) (v2 : Option Nat) (v3 : Int32) (h : Hp) (H : Heap) (locs : List Loc) (ls : Array Slot), ab_H D cA sz h s H locs → lv_has ls 4 [(0, .ref b), (1, va_rf v1), (2, va_rf v2), (3, .int v3)] → f_L_law_18 xs L n v1 v2 v3 h = some (1, hh) → W p l e room_1 s m #[Value.ref b] below meth c H locs cells slots (lw_Z below #[Value.ref b] s) (F0 m 18 ls []) := by
  induction n with
  | zero => intro cells slots hc1 hc2 v1 v2 v3 h H locs ls S hl hF; cases hF
  | succ n ih =>
    intro cells slots hc1 hc2 v1 v2 v3 h H locs ls S hl hF
    rw [f_L_law_18] at hF
    refine lv_iload_n X.1 X.2.1 dL_law_18 rfl (lv_at hl 3 rfl) ?_
    refine lv_aload_n X.1 X.2.1 dL_law_19 rfl (lv_at hl 0 rfl) ?_
    refine va_slen X.1 X.2.1 hX hbl hbA S.2 dL_law_20 ?_
    refine lv_bipush (v := 7) X.1 X.2.1 dL_law_21 (by decide) ?_
    refine lv_isub X.1 X.2.1 dL_law_23 ?_
    refine lv_icmp_gt (tgt := 1517) X.1 X.2.1 dL_law_24 (by decide) (fun c1 => ?_) (fun c1 => ?_)
    · have hF := ab_pos c1 hF
      refine lv_iconst (v := 1) X.1 X.2.1 dL_law_1517 (by decide) ?_
      refine W.widen (k := 600000) (n := 7302250) (by omega) (by omega) ?_
      refine va_forget (fun q hq => Nat.le_trans hsz (S.2.2.2 q hq)) ?_
      exact W.base (lw_ret (Drawn.sameBut.refl s.drawn lw_cs) X.1 X.2.1 hr X.2.2.2.2.2.2.1 dL_law_1518)
    · have hF := ab_neg c1 hF
      refine lv_aload_n X.1 X.2.1 dL_law_27 rfl (lv_at hl 0 rfl) ?_
      refine lv_iload_n X.1 X.2.1 dL_law_28 rfl (lv_at hl 3 rfl) ?_
      refine ab_scr X S hX hbl hbA hF dL_law_29 (fun x2 hF => ?_)
      refine lv_bipush (v := 31) X.1 X.2.1 dL_law_30 (by decide) ?_
      refine lv_iand X.1 X.2.1 dL_law_32 ?_
      by_cases c3 : (x2 &&& 31).toInt < 0 ∨ 25 < (x2 &&& 31).toInt
      · have hF := ab_pos c3 hF
        refine lv_tableOut (tgt := 1511) X.1 X.2.1 dL_law_33 c3 (by decide) ?_
        exact w_L_law_1511 X hr hX hbl hbA hsz ih (by omega) (by omega) S (lv_sub hl [0, 1, 2, 3] rfl) hF
      have hF := ab_neg c3 hF
      by_cases c4 : (x2 &&& 31) = 0
      · have hF := ab_pos c4 hF
        refine ab_tab (tgt := 152) X dL_law_33 c4 (by decide) (by decide) rfl (by decide) ?_
        refine ab_aload_n X dL_law_152 rfl (lv_at hl 1 rfl) ?_
        refine lv_aload_n X.1 X.2.1 dL_law_153 rfl (lv_at hl 0 rfl) ?_
        refine lv_iload_n X.1 X.2.1 dL_law_154 rfl (lv_at hl 3 rfl) ?_
        refine lv_iconst (v := 1) X.1 X.2.1 dL_law_155 (by decide) ?_
        refine lv_iadd X.1 X.2.1 dL_law_156 ?_
        refine ab_scr X S hX hbl hbA hF dL_law_157 (fun x5 hF => ?_)
        refine lv_aload_n X.1 X.2.1 dL_law_158 rfl (lv_at hl 0 rfl) ?_
        refine lv_iload_n X.1 X.2.1 dL_law_159 rfl (lv_at hl 3 rfl) ?_
        refine lv_iconst (v := 2) X.1 X.2.1 dL_law_160 (by decide) ?_
        refine lv_iadd X.1 X.2.1 dL_law_161 ?_
        refine ab_scr X S hX hbl hbA hF dL_law_162 (fun x6 hF => ?_)
        obtain ⟨a10, e11, hF⟩ := bind_out hF
        obtain ⟨x7, h8, e9, hF⟩ := bnd_out hF
        refine ab_callVxi X S e11 (c_X8_law l D cA sz e9) rfl (by decide) mi_X8_law lm_L_13 li_yX8_law ls_yX8_law (As := [.int x5, .int x6]) (rest := []) rfl ⟨by decide, by decide⟩ ⟨(by dsimp only [room_1]; omega), (by dsimp only [room_1]; omega)⟩ hl.1 rfl (by simp [ab_cat, ab_cI, ab_cJ, ab_cD, ab_cF, ab_cA]) dL_law_163 (fun H1 locs1 S => ?_)
        refine ab_aload_n X dL_law_166 rfl (lv_at hl 2 rfl) ?_
        refine lv_aload_n X.1 X.2.1 dL_law_167 rfl (lv_at hl 0 rfl) ?_
        refine lv_iload_n X.1 X.2.1 dL_law_168 rfl (lv_at hl 3 rfl) ?_
        refine lv_iconst (v := 1) X.1 X.2.1 dL_law_169 (by decide) ?_
        refine lv_iadd X.1 X.2.1 dL_law_170 ?_
        refine ab_scr X S hX hbl hbA hF dL_law_171 (fun x12 hF => ?_)
        refine lv_aload_n X.1 X.2.1 dL_law_172 rfl (lv_at hl 0 rfl) ?_
        refine lv_iload_n X.1 X.2.1 dL_law_173 rfl (lv_at hl 3 rfl) ?_
        refine lv_iconst (v := 2) X.1 X.2.1 dL_law_174 (by decide) ?_
        refine lv_iadd X.1 X.2.1 dL_law_175 ?_
        refine ab_scr X S hX hbl hbA hF dL_law_176 (fun x13 hF => ?_)
        obtain ⟨a17, e18, hF⟩ := bind_out hF
        obtain ⟨x14, h15, e16, hF⟩ := bnd_out hF
        refine ab_callVi X S e18 (c_X9_law l D cA sz e16) rfl (by decide) mi_X9_law lm_L_17 li_yX9_law ls_yX9_law (As := [.int x12, .int x13]) (rest := [.int x7]) rfl ⟨by decide, by decide⟩ ⟨(by dsimp only [room_1]; omega), (by dsimp only [room_1]; omega)⟩ hl.1 rfl (by simp [ab_cat, ab_cI, ab_cJ, ab_cD, ab_cF, ab_cA]) dL_law_177 (fun H1 locs1 S => ?_)
        refine lv_icmp_eq (tgt := 1511) X.1 X.2.1 dL_law_180 (by decide) (fun c19 => ?_) (fun c19 => ?_)
        · have hF := ab_pos c19 hF
          exact w_L_law_1511 X hr hX hbl hbA hsz ih (by omega) (by omega) S (lv_sub hl [0, 1, 2, 3] rfl) hF
        · have hF := ab_neg c19 hF
          refine lv_iconst (v := 0) X.1 X.2.1 dL_law_183 (by decide) ?_
          exact absurd hF (by simp)
      have hF := ab_neg c4 hF
      by_cases c20 : (x2 &&& 31) = 1
      · have hF := ab_pos c20 hF
        refine ab_tab (tgt := 185) X dL_law_33 c20 (by decide) (by decide) rfl (by decide) ?_
        refine ab_aload_n X dL_law_185 rfl (lv_at hl 1 rfl) ?_
        refine lv_aload_n X.1 X.2.1 dL_law_186 rfl (lv_at hl 0 rfl) ?_
        refine lv_iload_n X.1 X.2.1 dL_law_187 rfl (lv_at hl 3 rfl) ?_
        refine lv_iconst (v := 1) X.1 X.2.1 dL_law_188 (by decide) ?_
        refine lv_iadd X.1 X.2.1 dL_law_189 ?_
        refine ab_scr X S hX hbl hbA hF dL_law_190 (fun x21 hF => ?_)
        refine lv_aload_n X.1 X.2.1 dL_law_191 rfl (lv_at hl 0 rfl) ?_
        refine lv_iload_n X.1 X.2.1 dL_law_192 rfl (lv_at hl 3 rfl) ?_
        refine lv_iconst (v := 2) X.1 X.2.1 dL_law_193 (by decide) ?_
        refine lv_iadd X.1 X.2.1 dL_law_194 ?_
        refine ab_scr X S hX hbl hbA hF dL_law_195 (fun x22 hF => ?_)
        refine lv_i2l (v := x22.toInt64) X.1 X.2.1 dL_law_196 rfl ?_
        refine lv_bipush (v := 32) X.1 X.2.1 dL_law_197 (by decide) ?_
        refine lv_lshl (v := x22.toInt64 <<< ((32 : Int32).toInt64 &&& 63)) X.1 X.2.1 dL_law_199 rfl ?_
        refine lv_aload_n X.1 X.2.1 dL_law_200 rfl (lv_at hl 0 rfl) ?_
        refine lv_iload_n X.1 X.2.1 dL_law_201 rfl (lv_at hl 3 rfl) ?_
        refine lv_iconst (v := 3) X.1 X.2.1 dL_law_202 (by decide) ?_
        refine lv_iadd X.1 X.2.1 dL_law_203 ?_
        refine ab_scr X S hX hbl hbA hF dL_law_204 (fun x23 hF => ?_)
        refine lv_i2l (v := x23.toInt64) X.1 X.2.1 dL_law_205 rfl ?_
        refine lv_ldc2 (v := (4294967295)) X.1 X.2.1 X.2.2.2.1 (X.2.2.2.2.1 _ ll_L_18) dL_law_206 ?_
        refine lv_land X.1 X.2.1 dL_law_209 ?_
        refine lv_lor X.1 X.2.1 dL_law_210 ?_
        refine lv_aload_n X.1 X.2.1 dL_law_211 rfl (lv_at hl 0 rfl) ?_
        refine lv_iload_n X.1 X.2.1 dL_law_212 rfl (lv_at hl 3 rfl) ?_
        refine lv_iconst (v := 4) X.1 X.2.1 dL_law_213 (by decide) ?_
        refine lv_iadd X.1 X.2.1 dL_law_214 ?_
        refine ab_scr X S hX hbl hbA hF dL_law_215 (fun x24 hF => ?_)
        obtain ⟨a28, e29, hF⟩ := bind_out hF
        obtain ⟨x25, h26, e27, hF⟩ := bnd_out hF
        refine ab_callVi X S e29 (c_X8_constant l D cA sz e27) rfl (by decide) mi_X8_constant lm_L_20 li_yX8_constant ls_yX8_constant (As := [.int x21, .long ((x22.toInt64 <<< ((32 : Int32).toInt64 &&& 63)) ||| (x23.toInt64 &&& (4294967295))), .int x24]) (rest := []) rfl ⟨by decide, by decide⟩ ⟨(by dsimp only [room_1]; omega), (by dsimp only [room_1]; omega)⟩ hl.1 rfl (by simp [ab_cat, ab_cI, ab_cJ, ab_cD, ab_cF, ab_cA]) dL_law_216 (fun H1 locs1 S => ?_)
        refine ab_aload_n X dL_law_219 rfl (lv_at hl 2 rfl) ?_
        refine lv_aload_n X.1 X.2.1 dL_law_220 rfl (lv_at hl 0 rfl) ?_
        refine lv_iload_n X.1 X.2.1 dL_law_221 rfl (lv_at hl 3 rfl) ?_
        refine lv_iconst (v := 1) X.1 X.2.1 dL_law_222 (by decide) ?_
        refine lv_iadd X.1 X.2.1 dL_law_223 ?_
        refine ab_scr X S hX hbl hbA hF dL_law_224 (fun x30 hF => ?_)
        refine lv_aload_n X.1 X.2.1 dL_law_225 rfl (lv_at hl 0 rfl) ?_
        refine lv_iload_n X.1 X.2.1 dL_law_226 rfl (lv_at hl 3 rfl) ?_
        refine lv_iconst (v := 2) X.1 X.2.1 dL_law_227 (by decide) ?_
        refine lv_iadd X.1 X.2.1 dL_law_228 ?_
        refine ab_scr X S hX hbl hbA hF dL_law_229 (fun x31 hF => ?_)
        refine lv_i2l (v := x31.toInt64) X.1 X.2.1 dL_law_230 rfl ?_
        refine lv_bipush (v := 32) X.1 X.2.1 dL_law_231 (by decide) ?_
        refine lv_lshl (v := x31.toInt64 <<< ((32 : Int32).toInt64 &&& 63)) X.1 X.2.1 dL_law_233 rfl ?_
        refine lv_aload_n X.1 X.2.1 dL_law_234 rfl (lv_at hl 0 rfl) ?_
        refine lv_iload_n X.1 X.2.1 dL_law_235 rfl (lv_at hl 3 rfl) ?_
        refine lv_iconst (v := 3) X.1 X.2.1 dL_law_236 (by decide) ?_
        refine lv_iadd X.1 X.2.1 dL_law_237 ?_
        refine ab_scr X S hX hbl hbA hF dL_law_238 (fun x32 hF => ?_)
        refine lv_i2l (v := x32.toInt64) X.1 X.2.1 dL_law_239 rfl ?_
        refine lv_ldc2 (v := (4294967295)) X.1 X.2.1 X.2.2.2.1 (X.2.2.2.2.1 _ ll_L_18) dL_law_240 ?_
        refine lv_land X.1 X.2.1 dL_law_243 ?_
        refine lv_lor X.1 X.2.1 dL_law_244 ?_
        refine lv_aload_n X.1 X.2.1 dL_law_245 rfl (lv_at hl 0 rfl) ?_
        refine lv_iload_n X.1 X.2.1 dL_law_246 rfl (lv_at hl 3 rfl) ?_
        refine lv_iconst (v := 4) X.1 X.2.1 dL_law_247 (by decide) ?_
        refine lv_iadd X.1 X.2.1 dL_law_248 ?_
        refine ab_scr X S hX hbl hbA hF dL_law_249 (fun x33 hF => ?_)
        obtain ⟨a37, e38, hF⟩ := bind_out hF
        obtain ⟨x34, h35, e36, hF⟩ := bnd_out hF
        refine ab_callVi X S e38 (c_X9_constant l D cA sz e36) rfl (by decide) mi_X9_constant lm_L_24 li_yX9_constant ls_yX9_constant (As := [.int x30, .long ((x31.toInt64 <<< ((32 : Int32).toInt64 &&& 63)) ||| (x32.toInt64 &&& (4294967295))), .int x33]) (rest := [.int x25]) rfl ⟨by decide, by decide⟩ ⟨(by dsimp only [room_1]; omega), (by dsimp only [room_1]; omega)⟩ hl.1 rfl (by simp [ab_cat, ab_cI, ab_cJ, ab_cD, ab_cF, ab_cA]) dL_law_250 (fun H1 locs1 S => ?_)
        refine lv_icmp_eq (tgt := 1511) X.1 X.2.1 dL_law_253 (by decide) (fun c39 => ?_) (fun c39 => ?_)
        · have hF := ab_pos c39 hF
          exact w_L_law_1511 X hr hX hbl hbA hsz ih (by omega) (by omega) S (lv_sub hl [0, 1, 2, 3] rfl) hF
        · have hF := ab_neg c39 hF
          refine lv_iconst (v := 0) X.1 X.2.1 dL_law_256 (by decide) ?_
          exact absurd hF (by simp)
      have hF := ab_neg c20 hF
      by_cases c40 : (x2 &&& 31) = 2
      · have hF := ab_pos c40 hF
        refine ab_tab (tgt := 258) X dL_law_33 c40 (by decide) (by decide) rfl (by decide) ?_
        refine ab_aload_n X dL_law_258 rfl (lv_at hl 1 rfl) ?_
        refine lv_aload_n X.1 X.2.1 dL_law_259 rfl (lv_at hl 0 rfl) ?_
        refine lv_iload_n X.1 X.2.1 dL_law_260 rfl (lv_at hl 3 rfl) ?_
        refine lv_iconst (v := 1) X.1 X.2.1 dL_law_261 (by decide) ?_
        refine lv_iadd X.1 X.2.1 dL_law_262 ?_
        refine ab_scr X S hX hbl hbA hF dL_law_263 (fun x41 hF => ?_)
        refine lv_aload_n X.1 X.2.1 dL_law_264 rfl (lv_at hl 0 rfl) ?_
        refine lv_iload_n X.1 X.2.1 dL_law_265 rfl (lv_at hl 3 rfl) ?_
        refine lv_iconst (v := 2) X.1 X.2.1 dL_law_266 (by decide) ?_
        refine lv_iadd X.1 X.2.1 dL_law_267 ?_
        refine ab_scr X S hX hbl hbA hF dL_law_268 (fun x42 hF => ?_)
        refine lv_aload_n X.1 X.2.1 dL_law_269 rfl (lv_at hl 0 rfl) ?_
        refine lv_iload_n X.1 X.2.1 dL_law_270 rfl (lv_at hl 3 rfl) ?_
        refine lv_iconst (v := 3) X.1 X.2.1 dL_law_271 (by decide) ?_
        refine lv_iadd X.1 X.2.1 dL_law_272 ?_
        refine ab_scr X S hX hbl hbA hF dL_law_273 (fun x43 hF => ?_)
        refine lv_aload_n X.1 X.2.1 dL_law_274 rfl (lv_at hl 0 rfl) ?_
        refine lv_iload_n X.1 X.2.1 dL_law_275 rfl (lv_at hl 3 rfl) ?_
        refine lv_iconst (v := 4) X.1 X.2.1 dL_law_276 (by decide) ?_
        refine lv_iadd X.1 X.2.1 dL_law_277 ?_
        refine ab_scr X S hX hbl hbA hF dL_law_278 (fun x44 hF => ?_)
        refine lv_aload_n X.1 X.2.1 dL_law_279 rfl (lv_at hl 0 rfl) ?_
        refine lv_iload_n X.1 X.2.1 dL_law_280 rfl (lv_at hl 3 rfl) ?_
        refine lv_iconst (v := 5) X.1 X.2.1 dL_law_281 (by decide) ?_
        refine lv_iadd X.1 X.2.1 dL_law_282 ?_
        refine ab_scr X S hX hbl hbA hF dL_law_283 (fun x45 hF => ?_)
        obtain ⟨a49, e50, hF⟩ := bind_out hF
        obtain ⟨x46, h47, e48, hF⟩ := bnd_out hF
        refine ab_callVi X S e50 (c_X8_node l D cA sz e48) rfl (by decide) mi_X8_node lm_L_25 li_yX8_node ls_yX8_node (As := [.int x41, .int x42, .int x43, .int x44, .int x45]) (rest := []) rfl ⟨by decide, by decide⟩ ⟨(by dsimp only [room_1]; omega), (by dsimp only [room_1]; omega)⟩ hl.1 rfl (by simp [ab_cat, ab_cI, ab_cJ, ab_cD, ab_cF, ab_cA]) dL_law_284 (fun H1 locs1 S => ?_)
        refine ab_aload_n X dL_law_287 rfl (lv_at hl 2 rfl) ?_
        refine lv_aload_n X.1 X.2.1 dL_law_288 rfl (lv_at hl 0 rfl) ?_
        refine lv_iload_n X.1 X.2.1 dL_law_289 rfl (lv_at hl 3 rfl) ?_
        refine lv_iconst (v := 1) X.1 X.2.1 dL_law_290 (by decide) ?_
        refine lv_iadd X.1 X.2.1 dL_law_291 ?_
        refine ab_scr X S hX hbl hbA hF dL_law_292 (fun x51 hF => ?_)
        refine lv_aload_n X.1 X.2.1 dL_law_293 rfl (lv_at hl 0 rfl) ?_
        refine lv_iload_n X.1 X.2.1 dL_law_294 rfl (lv_at hl 3 rfl) ?_
        refine lv_iconst (v := 2) X.1 X.2.1 dL_law_295 (by decide) ?_
        refine lv_iadd X.1 X.2.1 dL_law_296 ?_
        refine ab_scr X S hX hbl hbA hF dL_law_297 (fun x52 hF => ?_)
        refine lv_aload_n X.1 X.2.1 dL_law_298 rfl (lv_at hl 0 rfl) ?_
        refine lv_iload_n X.1 X.2.1 dL_law_299 rfl (lv_at hl 3 rfl) ?_
        refine lv_iconst (v := 3) X.1 X.2.1 dL_law_300 (by decide) ?_
        refine lv_iadd X.1 X.2.1 dL_law_301 ?_
        refine ab_scr X S hX hbl hbA hF dL_law_302 (fun x53 hF => ?_)
        refine lv_aload_n X.1 X.2.1 dL_law_303 rfl (lv_at hl 0 rfl) ?_
        refine lv_iload_n X.1 X.2.1 dL_law_304 rfl (lv_at hl 3 rfl) ?_
        refine lv_iconst (v := 4) X.1 X.2.1 dL_law_305 (by decide) ?_
        refine lv_iadd X.1 X.2.1 dL_law_306 ?_
        refine ab_scr X S hX hbl hbA hF dL_law_307 (fun x54 hF => ?_)
        refine lv_aload_n X.1 X.2.1 dL_law_308 rfl (lv_at hl 0 rfl) ?_
        refine lv_iload_n X.1 X.2.1 dL_law_309 rfl (lv_at hl 3 rfl) ?_
        refine lv_iconst (v := 5) X.1 X.2.1 dL_law_310 (by decide) ?_
        refine lv_iadd X.1 X.2.1 dL_law_311 ?_
        refine ab_scr X S hX hbl hbA hF dL_law_312 (fun x55 hF => ?_)
        obtain ⟨a59, e60, hF⟩ := bind_out hF
        obtain ⟨x56, h57, e58, hF⟩ := bnd_out hF
        refine ab_callVi X S e60 (c_X9_node l D cA sz e58) rfl (by decide) mi_X9_node lm_L_29 li_yX9_node ls_yX9_node (As := [.int x51, .int x52, .int x53, .int x54, .int x55]) (rest := [.int x46]) rfl ⟨by decide, by decide⟩ ⟨(by dsimp only [room_1]; omega), (by dsimp only [room_1]; omega)⟩ hl.1 rfl (by simp [ab_cat, ab_cI, ab_cJ, ab_cD, ab_cF, ab_cA]) dL_law_313 (fun H1 locs1 S => ?_)
        refine lv_icmp_eq (tgt := 1511) X.1 X.2.1 dL_law_316 (by decide) (fun c61 => ?_) (fun c61 => ?_)
        · have hF := ab_pos c61 hF
          exact w_L_law_1511 X hr hX hbl hbA hsz ih (by omega) (by omega) S (lv_sub hl [0, 1, 2, 3] rfl) hF
        · have hF := ab_neg c61 hF
          refine lv_iconst (v := 0) X.1 X.2.1 dL_law_319 (by decide) ?_
          exact absurd hF (by simp)
      have hF := ab_neg c40 hF
      by_cases c62 : (x2 &&& 31) = 3
      · have hF := ab_pos c62 hF
        refine ab_tab (tgt := 321) X dL_law_33 c62 (by decide) (by decide) rfl (by decide) ?_
        refine ab_aload_n X dL_law_321 rfl (lv_at hl 1 rfl) ?_
        refine lv_aload_n X.1 X.2.1 dL_law_322 rfl (lv_at hl 0 rfl) ?_
        refine lv_iload_n X.1 X.2.1 dL_law_323 rfl (lv_at hl 3 rfl) ?_
        refine lv_iconst (v := 1) X.1 X.2.1 dL_law_324 (by decide) ?_
        refine lv_iadd X.1 X.2.1 dL_law_325 ?_
        refine ab_scr X S hX hbl hbA hF dL_law_326 (fun x63 hF => ?_)
        refine lv_aload_n X.1 X.2.1 dL_law_327 rfl (lv_at hl 0 rfl) ?_
        refine lv_iload_n X.1 X.2.1 dL_law_328 rfl (lv_at hl 3 rfl) ?_
        refine lv_iconst (v := 2) X.1 X.2.1 dL_law_329 (by decide) ?_
        refine lv_iadd X.1 X.2.1 dL_law_330 ?_
        refine ab_scr X S hX hbl hbA hF dL_law_331 (fun x64 hF => ?_)
        refine lv_aload_n X.1 X.2.1 dL_law_332 rfl (lv_at hl 0 rfl) ?_
        refine lv_iload_n X.1 X.2.1 dL_law_333 rfl (lv_at hl 3 rfl) ?_
        refine lv_iconst (v := 3) X.1 X.2.1 dL_law_334 (by decide) ?_
        refine lv_iadd X.1 X.2.1 dL_law_335 ?_
        refine ab_scr X S hX hbl hbA hF dL_law_336 (fun x65 hF => ?_)
        obtain ⟨a69, e70, hF⟩ := bind_out hF
        obtain ⟨x66, h67, e68, hF⟩ := bnd_out hF
        refine ab_callVi X S e70 (c_X8_side l D cA sz e68) rfl (by decide) mi_X8_side lm_L_30 li_yX8_side ls_yX8_side (As := [.int x63, .int x64, .int x65]) (rest := []) rfl ⟨by decide, by decide⟩ ⟨(by dsimp only [room_1]; omega), (by dsimp only [room_1]; omega)⟩ hl.1 rfl (by simp [ab_cat, ab_cI, ab_cJ, ab_cD, ab_cF, ab_cA]) dL_law_337 (fun H1 locs1 S => ?_)
        refine ab_aload_n X dL_law_340 rfl (lv_at hl 2 rfl) ?_
        refine lv_aload_n X.1 X.2.1 dL_law_341 rfl (lv_at hl 0 rfl) ?_
        refine lv_iload_n X.1 X.2.1 dL_law_342 rfl (lv_at hl 3 rfl) ?_
        refine lv_iconst (v := 1) X.1 X.2.1 dL_law_343 (by decide) ?_
        refine lv_iadd X.1 X.2.1 dL_law_344 ?_
        refine ab_scr X S hX hbl hbA hF dL_law_345 (fun x71 hF => ?_)
        refine lv_aload_n X.1 X.2.1 dL_law_346 rfl (lv_at hl 0 rfl) ?_
        refine lv_iload_n X.1 X.2.1 dL_law_347 rfl (lv_at hl 3 rfl) ?_
        refine lv_iconst (v := 2) X.1 X.2.1 dL_law_348 (by decide) ?_
        refine lv_iadd X.1 X.2.1 dL_law_349 ?_
        refine ab_scr X S hX hbl hbA hF dL_law_350 (fun x72 hF => ?_)
        refine lv_aload_n X.1 X.2.1 dL_law_351 rfl (lv_at hl 0 rfl) ?_
        refine lv_iload_n X.1 X.2.1 dL_law_352 rfl (lv_at hl 3 rfl) ?_
        refine lv_iconst (v := 3) X.1 X.2.1 dL_law_353 (by decide) ?_
        refine lv_iadd X.1 X.2.1 dL_law_354 ?_
        refine ab_scr X S hX hbl hbA hF dL_law_355 (fun x73 hF => ?_)
        obtain ⟨a77, e78, hF⟩ := bind_out hF
        obtain ⟨x74, h75, e76, hF⟩ := bnd_out hF
        refine ab_callVi X S e78 (c_X9_side l D cA sz e76) rfl (by decide) mi_X9_side lm_L_34 li_yX9_side ls_yX9_side (As := [.int x71, .int x72, .int x73]) (rest := [.int x66]) rfl ⟨by decide, by decide⟩ ⟨(by dsimp only [room_1]; omega), (by dsimp only [room_1]; omega)⟩ hl.1 rfl (by simp [ab_cat, ab_cI, ab_cJ, ab_cD, ab_cF, ab_cA]) dL_law_356 (fun H1 locs1 S => ?_)
        refine lv_icmp_eq (tgt := 1511) X.1 X.2.1 dL_law_359 (by decide) (fun c79 => ?_) (fun c79 => ?_)
        · have hF := ab_pos c79 hF
          exact w_L_law_1511 X hr hX hbl hbA hsz ih (by omega) (by omega) S (lv_sub hl [0, 1, 2, 3] rfl) hF
        · have hF := ab_neg c79 hF
          refine lv_iconst (v := 0) X.1 X.2.1 dL_law_362 (by decide) ?_
          exact absurd hF (by simp)
      have hF := ab_neg c62 hF
      by_cases c80 : (x2 &&& 31) = 4
      · have hF := ab_pos c80 hF
        refine ab_tab (tgt := 364) X dL_law_33 c80 (by decide) (by decide) rfl (by decide) ?_
        refine ab_aload_n X dL_law_364 rfl (lv_at hl 1 rfl) ?_
        refine lv_aload_n X.1 X.2.1 dL_law_365 rfl (lv_at hl 0 rfl) ?_
        refine lv_iload_n X.1 X.2.1 dL_law_366 rfl (lv_at hl 3 rfl) ?_
        refine lv_iconst (v := 1) X.1 X.2.1 dL_law_367 (by decide) ?_
        refine lv_iadd X.1 X.2.1 dL_law_368 ?_
        refine ab_scr X S hX hbl hbA hF dL_law_369 (fun x81 hF => ?_)
        obtain ⟨a85, e86, hF⟩ := bind_out hF
        obtain ⟨x82, h83, e84, hF⟩ := bnd_out hF
        refine ab_callVxi X S e86 (c_X8_signal l D cA sz e84) rfl (by decide) mi_X8_signal lm_L_35 li_yX8_signal ls_yX8_signal (As := [.int x81]) (rest := []) rfl ⟨by decide, by decide⟩ ⟨(by dsimp only [room_1]; omega), (by dsimp only [room_1]; omega)⟩ hl.1 rfl (by simp [ab_cat, ab_cI, ab_cJ, ab_cD, ab_cF, ab_cA]) dL_law_370 (fun H1 locs1 S => ?_)
        refine ab_aload_n X dL_law_373 rfl (lv_at hl 2 rfl) ?_
        refine lv_aload_n X.1 X.2.1 dL_law_374 rfl (lv_at hl 0 rfl) ?_
        refine lv_iload_n X.1 X.2.1 dL_law_375 rfl (lv_at hl 3 rfl) ?_
        refine lv_iconst (v := 1) X.1 X.2.1 dL_law_376 (by decide) ?_
        refine lv_iadd X.1 X.2.1 dL_law_377 ?_
        refine ab_scr X S hX hbl hbA hF dL_law_378 (fun x87 hF => ?_)
        obtain ⟨a91, e92, hF⟩ := bind_out hF
        obtain ⟨x88, h89, e90, hF⟩ := bnd_out hF
        refine ab_callVi X S e92 (c_X9_signal l D cA sz e90) rfl (by decide) mi_X9_signal lm_L_39 li_yX9_signal ls_yX9_signal (As := [.int x87]) (rest := [.int x82]) rfl ⟨by decide, by decide⟩ ⟨(by dsimp only [room_1]; omega), (by dsimp only [room_1]; omega)⟩ hl.1 rfl (by simp [ab_cat, ab_cI, ab_cJ, ab_cD, ab_cF, ab_cA]) dL_law_379 (fun H1 locs1 S => ?_)
        refine lv_icmp_eq (tgt := 1511) X.1 X.2.1 dL_law_382 (by decide) (fun c93 => ?_) (fun c93 => ?_)
        · have hF := ab_pos c93 hF
          exact w_L_law_1511 X hr hX hbl hbA hsz ih (by omega) (by omega) S (lv_sub hl [0, 1, 2, 3] rfl) hF
        · have hF := ab_neg c93 hF
          refine lv_iconst (v := 0) X.1 X.2.1 dL_law_385 (by decide) ?_
          exact absurd hF (by simp)
      have hF := ab_neg c80 hF
      by_cases c94 : (x2 &&& 31) = 5
      · have hF := ab_pos c94 hF
        refine ab_tab (tgt := 387) X dL_law_33 c94 (by decide) (by decide) rfl (by decide) ?_
        refine ab_aload_n X dL_law_387 rfl (lv_at hl 1 rfl) ?_
        refine lv_aload_n X.1 X.2.1 dL_law_388 rfl (lv_at hl 0 rfl) ?_
        refine lv_iload_n X.1 X.2.1 dL_law_389 rfl (lv_at hl 3 rfl) ?_
        refine lv_iconst (v := 1) X.1 X.2.1 dL_law_390 (by decide) ?_
        refine lv_iadd X.1 X.2.1 dL_law_391 ?_
        refine ab_scr X S hX hbl hbA hF dL_law_392 (fun x95 hF => ?_)
        refine lv_aload_n X.1 X.2.1 dL_law_393 rfl (lv_at hl 0 rfl) ?_
        refine lv_iload_n X.1 X.2.1 dL_law_394 rfl (lv_at hl 3 rfl) ?_
        refine lv_iconst (v := 2) X.1 X.2.1 dL_law_395 (by decide) ?_
        refine lv_iadd X.1 X.2.1 dL_law_396 ?_
        refine ab_scr X S hX hbl hbA hF dL_law_397 (fun x96 hF => ?_)
        refine lv_i2l (v := x96.toInt64) X.1 X.2.1 dL_law_398 rfl ?_
        refine lv_bipush (v := 32) X.1 X.2.1 dL_law_399 (by decide) ?_
        refine lv_lshl (v := x96.toInt64 <<< ((32 : Int32).toInt64 &&& 63)) X.1 X.2.1 dL_law_401 rfl ?_
        refine lv_aload_n X.1 X.2.1 dL_law_402 rfl (lv_at hl 0 rfl) ?_
        refine lv_iload_n X.1 X.2.1 dL_law_403 rfl (lv_at hl 3 rfl) ?_
        refine lv_iconst (v := 3) X.1 X.2.1 dL_law_404 (by decide) ?_
        refine lv_iadd X.1 X.2.1 dL_law_405 ?_
        refine ab_scr X S hX hbl hbA hF dL_law_406 (fun x97 hF => ?_)
        refine lv_i2l (v := x97.toInt64) X.1 X.2.1 dL_law_407 rfl ?_
        refine lv_ldc2 (v := (4294967295)) X.1 X.2.1 X.2.2.2.1 (X.2.2.2.2.1 _ ll_L_18) dL_law_408 ?_
        refine lv_land X.1 X.2.1 dL_law_411 ?_
        refine lv_lor X.1 X.2.1 dL_law_412 ?_
        refine lv_aload_n X.1 X.2.1 dL_law_413 rfl (lv_at hl 0 rfl) ?_
        refine lv_iload_n X.1 X.2.1 dL_law_414 rfl (lv_at hl 3 rfl) ?_
        refine lv_iconst (v := 4) X.1 X.2.1 dL_law_415 (by decide) ?_
        refine lv_iadd X.1 X.2.1 dL_law_416 ?_
        refine ab_scr X S hX hbl hbA hF dL_law_417 (fun x98 hF => ?_)
        refine lv_i2l (v := x98.toInt64) X.1 X.2.1 dL_law_418 rfl ?_
        refine lv_bipush (v := 32) X.1 X.2.1 dL_law_419 (by decide) ?_
        refine lv_lshl (v := x98.toInt64 <<< ((32 : Int32).toInt64 &&& 63)) X.1 X.2.1 dL_law_421 rfl ?_
        refine lv_aload_n X.1 X.2.1 dL_law_422 rfl (lv_at hl 0 rfl) ?_
        refine lv_iload_n X.1 X.2.1 dL_law_423 rfl (lv_at hl 3 rfl) ?_
        refine lv_iconst (v := 5) X.1 X.2.1 dL_law_424 (by decide) ?_
        refine lv_iadd X.1 X.2.1 dL_law_425 ?_
        refine ab_scr X S hX hbl hbA hF dL_law_426 (fun x99 hF => ?_)
        refine lv_i2l (v := x99.toInt64) X.1 X.2.1 dL_law_427 rfl ?_
        refine lv_ldc2 (v := (4294967295)) X.1 X.2.1 X.2.2.2.1 (X.2.2.2.2.1 _ ll_L_18) dL_law_428 ?_
        refine lv_land X.1 X.2.1 dL_law_431 ?_
        refine lv_lor X.1 X.2.1 dL_law_432 ?_
        refine lv_aload_n X.1 X.2.1 dL_law_433 rfl (lv_at hl 0 rfl) ?_
        refine lv_iload_n X.1 X.2.1 dL_law_434 rfl (lv_at hl 3 rfl) ?_
        refine lv_bipush (v := 6) X.1 X.2.1 dL_law_435 (by decide) ?_
        refine lv_iadd X.1 X.2.1 dL_law_437 ?_
        refine ab_scr X S hX hbl hbA hF dL_law_438 (fun x100 hF => ?_)
        obtain ⟨a104, e105, hF⟩ := bind_out hF
        obtain ⟨x101, h102, e103, hF⟩ := bnd_out hF
        refine ab_callVi X S e105 (c_X8_point l D cA sz e103) rfl (by decide) mi_X8_point lm_L_40 li_yX8_point ls_yX8_point (As := [.int x95, .long ((x96.toInt64 <<< ((32 : Int32).toInt64 &&& 63)) ||| (x97.toInt64 &&& (4294967295))), .long ((x98.toInt64 <<< ((32 : Int32).toInt64 &&& 63)) ||| (x99.toInt64 &&& (4294967295))), .int x100]) (rest := []) rfl ⟨by decide, by decide⟩ ⟨(by dsimp only [room_1]; omega), (by dsimp only [room_1]; omega)⟩ hl.1 rfl (by simp [ab_cat, ab_cI, ab_cJ, ab_cD, ab_cF, ab_cA]) dL_law_439 (fun H1 locs1 S => ?_)
        refine ab_aload_n X dL_law_442 rfl (lv_at hl 2 rfl) ?_
        refine lv_aload_n X.1 X.2.1 dL_law_443 rfl (lv_at hl 0 rfl) ?_
        refine lv_iload_n X.1 X.2.1 dL_law_444 rfl (lv_at hl 3 rfl) ?_
        refine lv_iconst (v := 1) X.1 X.2.1 dL_law_445 (by decide) ?_
        refine lv_iadd X.1 X.2.1 dL_law_446 ?_
        refine ab_scr X S hX hbl hbA hF dL_law_447 (fun x106 hF => ?_)
        refine lv_aload_n X.1 X.2.1 dL_law_448 rfl (lv_at hl 0 rfl) ?_
        refine lv_iload_n X.1 X.2.1 dL_law_449 rfl (lv_at hl 3 rfl) ?_
        refine lv_iconst (v := 2) X.1 X.2.1 dL_law_450 (by decide) ?_
        refine lv_iadd X.1 X.2.1 dL_law_451 ?_
        refine ab_scr X S hX hbl hbA hF dL_law_452 (fun x107 hF => ?_)
        refine lv_i2l (v := x107.toInt64) X.1 X.2.1 dL_law_453 rfl ?_
        refine lv_bipush (v := 32) X.1 X.2.1 dL_law_454 (by decide) ?_
        refine lv_lshl (v := x107.toInt64 <<< ((32 : Int32).toInt64 &&& 63)) X.1 X.2.1 dL_law_456 rfl ?_
        refine lv_aload_n X.1 X.2.1 dL_law_457 rfl (lv_at hl 0 rfl) ?_
        refine lv_iload_n X.1 X.2.1 dL_law_458 rfl (lv_at hl 3 rfl) ?_
        refine lv_iconst (v := 3) X.1 X.2.1 dL_law_459 (by decide) ?_
        refine lv_iadd X.1 X.2.1 dL_law_460 ?_
        refine ab_scr X S hX hbl hbA hF dL_law_461 (fun x108 hF => ?_)
        refine lv_i2l (v := x108.toInt64) X.1 X.2.1 dL_law_462 rfl ?_
        refine lv_ldc2 (v := (4294967295)) X.1 X.2.1 X.2.2.2.1 (X.2.2.2.2.1 _ ll_L_18) dL_law_463 ?_
        refine lv_land X.1 X.2.1 dL_law_466 ?_
        refine lv_lor X.1 X.2.1 dL_law_467 ?_
        refine lv_aload_n X.1 X.2.1 dL_law_468 rfl (lv_at hl 0 rfl) ?_
        refine lv_iload_n X.1 X.2.1 dL_law_469 rfl (lv_at hl 3 rfl) ?_
        refine lv_iconst (v := 4) X.1 X.2.1 dL_law_470 (by decide) ?_
        refine lv_iadd X.1 X.2.1 dL_law_471 ?_
        refine ab_scr X S hX hbl hbA hF dL_law_472 (fun x109 hF => ?_)
        refine lv_i2l (v := x109.toInt64) X.1 X.2.1 dL_law_473 rfl ?_
        refine lv_bipush (v := 32) X.1 X.2.1 dL_law_474 (by decide) ?_
        refine lv_lshl (v := x109.toInt64 <<< ((32 : Int32).toInt64 &&& 63)) X.1 X.2.1 dL_law_476 rfl ?_
        refine lv_aload_n X.1 X.2.1 dL_law_477 rfl (lv_at hl 0 rfl) ?_
        refine lv_iload_n X.1 X.2.1 dL_law_478 rfl (lv_at hl 3 rfl) ?_
        refine lv_iconst (v := 5) X.1 X.2.1 dL_law_479 (by decide) ?_
        refine lv_iadd X.1 X.2.1 dL_law_480 ?_
        refine ab_scr X S hX hbl hbA hF dL_law_481 (fun x110 hF => ?_)
        refine lv_i2l (v := x110.toInt64) X.1 X.2.1 dL_law_482 rfl ?_
        refine lv_ldc2 (v := (4294967295)) X.1 X.2.1 X.2.2.2.1 (X.2.2.2.2.1 _ ll_L_18) dL_law_483 ?_
        refine lv_land X.1 X.2.1 dL_law_486 ?_
        refine lv_lor X.1 X.2.1 dL_law_487 ?_
        refine lv_aload_n X.1 X.2.1 dL_law_488 rfl (lv_at hl 0 rfl) ?_
        refine lv_iload_n X.1 X.2.1 dL_law_489 rfl (lv_at hl 3 rfl) ?_
        refine lv_bipush (v := 6) X.1 X.2.1 dL_law_490 (by decide) ?_
        refine lv_iadd X.1 X.2.1 dL_law_492 ?_
        refine ab_scr X S hX hbl hbA hF dL_law_493 (fun x111 hF => ?_)
        obtain ⟨a115, e116, hF⟩ := bind_out hF
        obtain ⟨x112, h113, e114, hF⟩ := bnd_out hF
        refine ab_callVi X S e116 (c_X9_point l D cA sz e114) rfl (by decide) mi_X9_point lm_L_44 li_yX9_point ls_yX9_point (As := [.int x106, .long ((x107.toInt64 <<< ((32 : Int32).toInt64 &&& 63)) ||| (x108.toInt64 &&& (4294967295))), .long ((x109.toInt64 <<< ((32 : Int32).toInt64 &&& 63)) ||| (x110.toInt64 &&& (4294967295))), .int x111]) (rest := [.int x101]) rfl ⟨by decide, by decide⟩ ⟨(by dsimp only [room_1]; omega), (by dsimp only [room_1]; omega)⟩ hl.1 rfl (by simp [ab_cat, ab_cI, ab_cJ, ab_cD, ab_cF, ab_cA]) dL_law_494 (fun H1 locs1 S => ?_)
        refine lv_icmp_eq (tgt := 1511) X.1 X.2.1 dL_law_497 (by decide) (fun c117 => ?_) (fun c117 => ?_)
        · have hF := ab_pos c117 hF
          exact w_L_law_1511 X hr hX hbl hbA hsz ih (by omega) (by omega) S (lv_sub hl [0, 1, 2, 3] rfl) hF
        · have hF := ab_neg c117 hF
          refine lv_iconst (v := 0) X.1 X.2.1 dL_law_500 (by decide) ?_
          exact absurd hF (by simp)
      have hF := ab_neg c94 hF
      by_cases c118 : (x2 &&& 31) = 6
      · have hF := ab_pos c118 hF
        refine ab_tab (tgt := 502) X dL_law_33 c118 (by decide) (by decide) rfl (by decide) ?_
        refine ab_aload_n X dL_law_502 rfl (lv_at hl 1 rfl) ?_
        refine lv_aload_n X.1 X.2.1 dL_law_503 rfl (lv_at hl 0 rfl) ?_
        refine lv_iload_n X.1 X.2.1 dL_law_504 rfl (lv_at hl 3 rfl) ?_
        refine lv_iconst (v := 1) X.1 X.2.1 dL_law_505 (by decide) ?_
        refine lv_iadd X.1 X.2.1 dL_law_506 ?_
        refine ab_scr X S hX hbl hbA hF dL_law_507 (fun x119 hF => ?_)
        obtain ⟨a123, e124, hF⟩ := bind_out hF
        obtain ⟨x120, h121, e122, hF⟩ := bnd_out hF
        refine ab_callVi X S e124 (c_X8_many l D cA sz e122) rfl (by decide) mi_X8_many lm_L_45 li_yX8_many ls_yX8_many (As := [.int x119]) (rest := []) rfl ⟨by decide, by decide⟩ ⟨(by dsimp only [room_1]; omega), (by dsimp only [room_1]; omega)⟩ hl.1 rfl (by simp [ab_cat, ab_cI, ab_cJ, ab_cD, ab_cF, ab_cA]) dL_law_508 (fun H1 locs1 S => ?_)
        refine ab_aload_n X dL_law_511 rfl (lv_at hl 2 rfl) ?_
        refine lv_aload_n X.1 X.2.1 dL_law_512 rfl (lv_at hl 0 rfl) ?_
        refine lv_iload_n X.1 X.2.1 dL_law_513 rfl (lv_at hl 3 rfl) ?_
        refine lv_iconst (v := 1) X.1 X.2.1 dL_law_514 (by decide) ?_
        refine lv_iadd X.1 X.2.1 dL_law_515 ?_
        refine ab_scr X S hX hbl hbA hF dL_law_516 (fun x125 hF => ?_)
        obtain ⟨a129, e130, hF⟩ := bind_out hF
        obtain ⟨x126, h127, e128, hF⟩ := bnd_out hF
        refine ab_callVi X S e130 (c_X9_many l D cA sz e128) rfl (by decide) mi_X9_many lm_L_48 li_yX9_many ls_yX9_many (As := [.int x125]) (rest := [.int x120]) rfl ⟨by decide, by decide⟩ ⟨(by dsimp only [room_1]; omega), (by dsimp only [room_1]; omega)⟩ hl.1 rfl (by simp [ab_cat, ab_cI, ab_cJ, ab_cD, ab_cF, ab_cA]) dL_law_517 (fun H1 locs1 S => ?_)
        refine lv_icmp_eq (tgt := 1511) X.1 X.2.1 dL_law_520 (by decide) (fun c131 => ?_) (fun c131 => ?_)
        · have hF := ab_pos c131 hF
          exact w_L_law_1511 X hr hX hbl hbA hsz ih (by omega) (by omega) S (lv_sub hl [0, 1, 2, 3] rfl) hF
        · have hF := ab_neg c131 hF
          refine lv_iconst (v := 0) X.1 X.2.1 dL_law_523 (by decide) ?_
          exact absurd hF (by simp)
      have hF := ab_neg c118 hF
      by_cases c132 : (x2 &&& 31) = 7
      · have hF := ab_pos c132 hF
        refine ab_tab (tgt := 525) X dL_law_33 c132 (by decide) (by decide) rfl (by decide) ?_
        refine ab_aload_n X dL_law_525 rfl (lv_at hl 1 rfl) ?_
        refine lv_aload_n X.1 X.2.1 dL_law_526 rfl (lv_at hl 0 rfl) ?_
        refine lv_iload_n X.1 X.2.1 dL_law_527 rfl (lv_at hl 3 rfl) ?_
        refine lv_iconst (v := 1) X.1 X.2.1 dL_law_528 (by decide) ?_
        refine lv_iadd X.1 X.2.1 dL_law_529 ?_
        refine ab_scr X S hX hbl hbA hF dL_law_530 (fun x133 hF => ?_)
        refine lv_aload_n X.1 X.2.1 dL_law_531 rfl (lv_at hl 0 rfl) ?_
        refine lv_iload_n X.1 X.2.1 dL_law_532 rfl (lv_at hl 3 rfl) ?_
        refine lv_iconst (v := 2) X.1 X.2.1 dL_law_533 (by decide) ?_
        refine lv_iadd X.1 X.2.1 dL_law_534 ?_
        refine ab_scr X S hX hbl hbA hF dL_law_535 (fun x134 hF => ?_)
        refine lv_i2l (v := x134.toInt64) X.1 X.2.1 dL_law_536 rfl ?_
        refine lv_bipush (v := 32) X.1 X.2.1 dL_law_537 (by decide) ?_
        refine lv_lshl (v := x134.toInt64 <<< ((32 : Int32).toInt64 &&& 63)) X.1 X.2.1 dL_law_539 rfl ?_
        refine lv_aload_n X.1 X.2.1 dL_law_540 rfl (lv_at hl 0 rfl) ?_
        refine lv_iload_n X.1 X.2.1 dL_law_541 rfl (lv_at hl 3 rfl) ?_
        refine lv_iconst (v := 3) X.1 X.2.1 dL_law_542 (by decide) ?_
        refine lv_iadd X.1 X.2.1 dL_law_543 ?_
        refine ab_scr X S hX hbl hbA hF dL_law_544 (fun x135 hF => ?_)
        refine lv_i2l (v := x135.toInt64) X.1 X.2.1 dL_law_545 rfl ?_
        refine lv_ldc2 (v := (4294967295)) X.1 X.2.1 X.2.2.2.1 (X.2.2.2.2.1 _ ll_L_18) dL_law_546 ?_
        refine lv_land X.1 X.2.1 dL_law_549 ?_
        refine lv_lor X.1 X.2.1 dL_law_550 ?_
        refine lv_aload_n X.1 X.2.1 dL_law_551 rfl (lv_at hl 0 rfl) ?_
        refine lv_iload_n X.1 X.2.1 dL_law_552 rfl (lv_at hl 3 rfl) ?_
        refine lv_iconst (v := 4) X.1 X.2.1 dL_law_553 (by decide) ?_
        refine lv_iadd X.1 X.2.1 dL_law_554 ?_
        refine ab_scr X S hX hbl hbA hF dL_law_555 (fun x136 hF => ?_)
        obtain ⟨a140, e141, hF⟩ := bind_out hF
        obtain ⟨x137, h138, e139, hF⟩ := bnd_out hF
        refine ab_callVxi X S e141 (c_X8_run l D cA sz e139) rfl (by decide) mi_X8_run lm_L_49 li_yX8_run ls_yX8_run (As := [.int x133, .long ((x134.toInt64 <<< ((32 : Int32).toInt64 &&& 63)) ||| (x135.toInt64 &&& (4294967295))), .int x136]) (rest := []) rfl ⟨by decide, by decide⟩ ⟨(by dsimp only [room_1]; omega), (by dsimp only [room_1]; omega)⟩ hl.1 rfl (by simp [ab_cat, ab_cI, ab_cJ, ab_cD, ab_cF, ab_cA]) dL_law_556 (fun H1 locs1 S => ?_)
        refine ab_aload_n X dL_law_559 rfl (lv_at hl 2 rfl) ?_
        refine lv_aload_n X.1 X.2.1 dL_law_560 rfl (lv_at hl 0 rfl) ?_
        refine lv_iload_n X.1 X.2.1 dL_law_561 rfl (lv_at hl 3 rfl) ?_
        refine lv_iconst (v := 1) X.1 X.2.1 dL_law_562 (by decide) ?_
        refine lv_iadd X.1 X.2.1 dL_law_563 ?_
        refine ab_scr X S hX hbl hbA hF dL_law_564 (fun x142 hF => ?_)
        refine lv_aload_n X.1 X.2.1 dL_law_565 rfl (lv_at hl 0 rfl) ?_
        refine lv_iload_n X.1 X.2.1 dL_law_566 rfl (lv_at hl 3 rfl) ?_
        refine lv_iconst (v := 2) X.1 X.2.1 dL_law_567 (by decide) ?_
        refine lv_iadd X.1 X.2.1 dL_law_568 ?_
        refine ab_scr X S hX hbl hbA hF dL_law_569 (fun x143 hF => ?_)
        refine lv_i2l (v := x143.toInt64) X.1 X.2.1 dL_law_570 rfl ?_
        refine lv_bipush (v := 32) X.1 X.2.1 dL_law_571 (by decide) ?_
        refine lv_lshl (v := x143.toInt64 <<< ((32 : Int32).toInt64 &&& 63)) X.1 X.2.1 dL_law_573 rfl ?_
        refine lv_aload_n X.1 X.2.1 dL_law_574 rfl (lv_at hl 0 rfl) ?_
        refine lv_iload_n X.1 X.2.1 dL_law_575 rfl (lv_at hl 3 rfl) ?_
        refine lv_iconst (v := 3) X.1 X.2.1 dL_law_576 (by decide) ?_
        refine lv_iadd X.1 X.2.1 dL_law_577 ?_
        refine ab_scr X S hX hbl hbA hF dL_law_578 (fun x144 hF => ?_)
        refine lv_i2l (v := x144.toInt64) X.1 X.2.1 dL_law_579 rfl ?_
        refine lv_ldc2 (v := (4294967295)) X.1 X.2.1 X.2.2.2.1 (X.2.2.2.2.1 _ ll_L_18) dL_law_580 ?_
        refine lv_land X.1 X.2.1 dL_law_583 ?_
        refine lv_lor X.1 X.2.1 dL_law_584 ?_
        refine lv_aload_n X.1 X.2.1 dL_law_585 rfl (lv_at hl 0 rfl) ?_
        refine lv_iload_n X.1 X.2.1 dL_law_586 rfl (lv_at hl 3 rfl) ?_
        refine lv_iconst (v := 4) X.1 X.2.1 dL_law_587 (by decide) ?_
        refine lv_iadd X.1 X.2.1 dL_law_588 ?_
        refine ab_scr X S hX hbl hbA hF dL_law_589 (fun x145 hF => ?_)
        obtain ⟨a149, e150, hF⟩ := bind_out hF
        obtain ⟨x146, h147, e148, hF⟩ := bnd_out hF
        refine ab_callVi X S e150 (c_X9_run l D cA sz e148) rfl (by decide) mi_X9_run lm_L_52 li_yX9_run ls_yX9_run (As := [.int x142, .long ((x143.toInt64 <<< ((32 : Int32).toInt64 &&& 63)) ||| (x144.toInt64 &&& (4294967295))), .int x145]) (rest := [.int x137]) rfl ⟨by decide, by decide⟩ ⟨(by dsimp only [room_1]; omega), (by dsimp only [room_1]; omega)⟩ hl.1 rfl (by simp [ab_cat, ab_cI, ab_cJ, ab_cD, ab_cF, ab_cA]) dL_law_590 (fun H1 locs1 S => ?_)
        refine lv_icmp_eq (tgt := 1511) X.1 X.2.1 dL_law_593 (by decide) (fun c151 => ?_) (fun c151 => ?_)
        · have hF := ab_pos c151 hF
          exact w_L_law_1511 X hr hX hbl hbA hsz ih (by omega) (by omega) S (lv_sub hl [0, 1, 2, 3] rfl) hF
        · have hF := ab_neg c151 hF
          refine lv_iconst (v := 0) X.1 X.2.1 dL_law_596 (by decide) ?_
          exact absurd hF (by simp)
      have hF := ab_neg c132 hF
      by_cases c152 : (x2 &&& 31) = 8
      · have hF := ab_pos c152 hF
        refine ab_tab (tgt := 598) X dL_law_33 c152 (by decide) (by decide) rfl (by decide) ?_
        refine ab_aload_n X dL_law_598 rfl (lv_at hl 1 rfl) ?_
        refine lv_aload_n X.1 X.2.1 dL_law_599 rfl (lv_at hl 0 rfl) ?_
        refine lv_iload_n X.1 X.2.1 dL_law_600 rfl (lv_at hl 3 rfl) ?_
        refine lv_iconst (v := 1) X.1 X.2.1 dL_law_601 (by decide) ?_
        refine lv_iadd X.1 X.2.1 dL_law_602 ?_
        refine ab_scr X S hX hbl hbA hF dL_law_603 (fun x153 hF => ?_)
        refine lv_aload_n X.1 X.2.1 dL_law_604 rfl (lv_at hl 0 rfl) ?_
        refine lv_iload_n X.1 X.2.1 dL_law_605 rfl (lv_at hl 3 rfl) ?_
        refine lv_iconst (v := 2) X.1 X.2.1 dL_law_606 (by decide) ?_
        refine lv_iadd X.1 X.2.1 dL_law_607 ?_
        refine ab_scr X S hX hbl hbA hF dL_law_608 (fun x154 hF => ?_)
        refine lv_aload_n X.1 X.2.1 dL_law_609 rfl (lv_at hl 0 rfl) ?_
        refine lv_iload_n X.1 X.2.1 dL_law_610 rfl (lv_at hl 3 rfl) ?_
        refine lv_iconst (v := 3) X.1 X.2.1 dL_law_611 (by decide) ?_
        refine lv_iadd X.1 X.2.1 dL_law_612 ?_
        refine ab_scr X S hX hbl hbA hF dL_law_613 (fun x155 hF => ?_)
        refine lv_i2l (v := x155.toInt64) X.1 X.2.1 dL_law_614 rfl ?_
        refine lv_bipush (v := 32) X.1 X.2.1 dL_law_615 (by decide) ?_
        refine lv_lshl (v := x155.toInt64 <<< ((32 : Int32).toInt64 &&& 63)) X.1 X.2.1 dL_law_617 rfl ?_
        refine lv_aload_n X.1 X.2.1 dL_law_618 rfl (lv_at hl 0 rfl) ?_
        refine lv_iload_n X.1 X.2.1 dL_law_619 rfl (lv_at hl 3 rfl) ?_
        refine lv_iconst (v := 4) X.1 X.2.1 dL_law_620 (by decide) ?_
        refine lv_iadd X.1 X.2.1 dL_law_621 ?_
        refine ab_scr X S hX hbl hbA hF dL_law_622 (fun x156 hF => ?_)
        refine lv_i2l (v := x156.toInt64) X.1 X.2.1 dL_law_623 rfl ?_
        refine lv_ldc2 (v := (4294967295)) X.1 X.2.1 X.2.2.2.1 (X.2.2.2.2.1 _ ll_L_18) dL_law_624 ?_
        refine lv_land X.1 X.2.1 dL_law_627 ?_
        refine lv_lor X.1 X.2.1 dL_law_628 ?_
        refine lv_aload_n X.1 X.2.1 dL_law_629 rfl (lv_at hl 0 rfl) ?_
        refine lv_iload_n X.1 X.2.1 dL_law_630 rfl (lv_at hl 3 rfl) ?_
        refine lv_iconst (v := 5) X.1 X.2.1 dL_law_631 (by decide) ?_
        refine lv_iadd X.1 X.2.1 dL_law_632 ?_
        refine ab_scr X S hX hbl hbA hF dL_law_633 (fun x157 hF => ?_)
        obtain ⟨a161, e162, hF⟩ := bind_out hF
        obtain ⟨x158, h159, e160, hF⟩ := bnd_out hF
        refine ab_callVi X S e162 (c_X8_set l D cA sz e160) rfl (by decide) mi_X8_set lm_L_53 li_yX8_set ls_yX8_set (As := [.int x153, .int x154, .long ((x155.toInt64 <<< ((32 : Int32).toInt64 &&& 63)) ||| (x156.toInt64 &&& (4294967295))), .int x157]) (rest := []) rfl ⟨by decide, by decide⟩ ⟨(by dsimp only [room_1]; omega), (by dsimp only [room_1]; omega)⟩ hl.1 rfl (by simp [ab_cat, ab_cI, ab_cJ, ab_cD, ab_cF, ab_cA]) dL_law_634 (fun H1 locs1 S => ?_)
        refine ab_aload_n X dL_law_637 rfl (lv_at hl 2 rfl) ?_
        refine lv_aload_n X.1 X.2.1 dL_law_638 rfl (lv_at hl 0 rfl) ?_
        refine lv_iload_n X.1 X.2.1 dL_law_639 rfl (lv_at hl 3 rfl) ?_
        refine lv_iconst (v := 1) X.1 X.2.1 dL_law_640 (by decide) ?_
        refine lv_iadd X.1 X.2.1 dL_law_641 ?_
        refine ab_scr X S hX hbl hbA hF dL_law_642 (fun x163 hF => ?_)
        refine lv_aload_n X.1 X.2.1 dL_law_643 rfl (lv_at hl 0 rfl) ?_
        refine lv_iload_n X.1 X.2.1 dL_law_644 rfl (lv_at hl 3 rfl) ?_
        refine lv_iconst (v := 2) X.1 X.2.1 dL_law_645 (by decide) ?_
        refine lv_iadd X.1 X.2.1 dL_law_646 ?_
        refine ab_scr X S hX hbl hbA hF dL_law_647 (fun x164 hF => ?_)
        refine lv_aload_n X.1 X.2.1 dL_law_648 rfl (lv_at hl 0 rfl) ?_
        refine lv_iload_n X.1 X.2.1 dL_law_649 rfl (lv_at hl 3 rfl) ?_
        refine lv_iconst (v := 3) X.1 X.2.1 dL_law_650 (by decide) ?_
        refine lv_iadd X.1 X.2.1 dL_law_651 ?_
        refine ab_scr X S hX hbl hbA hF dL_law_652 (fun x165 hF => ?_)
        refine lv_i2l (v := x165.toInt64) X.1 X.2.1 dL_law_653 rfl ?_
        refine lv_bipush (v := 32) X.1 X.2.1 dL_law_654 (by decide) ?_
        refine lv_lshl (v := x165.toInt64 <<< ((32 : Int32).toInt64 &&& 63)) X.1 X.2.1 dL_law_656 rfl ?_
        refine lv_aload_n X.1 X.2.1 dL_law_657 rfl (lv_at hl 0 rfl) ?_
        refine lv_iload_n X.1 X.2.1 dL_law_658 rfl (lv_at hl 3 rfl) ?_
        refine lv_iconst (v := 4) X.1 X.2.1 dL_law_659 (by decide) ?_
        refine lv_iadd X.1 X.2.1 dL_law_660 ?_
        refine ab_scr X S hX hbl hbA hF dL_law_661 (fun x166 hF => ?_)
        refine lv_i2l (v := x166.toInt64) X.1 X.2.1 dL_law_662 rfl ?_
        refine lv_ldc2 (v := (4294967295)) X.1 X.2.1 X.2.2.2.1 (X.2.2.2.2.1 _ ll_L_18) dL_law_663 ?_
        refine lv_land X.1 X.2.1 dL_law_666 ?_
        refine lv_lor X.1 X.2.1 dL_law_667 ?_
        refine lv_aload_n X.1 X.2.1 dL_law_668 rfl (lv_at hl 0 rfl) ?_
        refine lv_iload_n X.1 X.2.1 dL_law_669 rfl (lv_at hl 3 rfl) ?_
        refine lv_iconst (v := 5) X.1 X.2.1 dL_law_670 (by decide) ?_
        refine lv_iadd X.1 X.2.1 dL_law_671 ?_
        refine ab_scr X S hX hbl hbA hF dL_law_672 (fun x167 hF => ?_)
        obtain ⟨a171, e172, hF⟩ := bind_out hF
        obtain ⟨x168, h169, e170, hF⟩ := bnd_out hF
        refine ab_callVi X S e172 (c_X9_set l D cA sz e170) rfl (by decide) mi_X9_set lm_L_57 li_yX9_set ls_yX9_set (As := [.int x163, .int x164, .long ((x165.toInt64 <<< ((32 : Int32).toInt64 &&& 63)) ||| (x166.toInt64 &&& (4294967295))), .int x167]) (rest := [.int x158]) rfl ⟨by decide, by decide⟩ ⟨(by dsimp only [room_1]; omega), (by dsimp only [room_1]; omega)⟩ hl.1 rfl (by simp [ab_cat, ab_cI, ab_cJ, ab_cD, ab_cF, ab_cA]) dL_law_673 (fun H1 locs1 S => ?_)
        refine lv_icmp_eq (tgt := 1511) X.1 X.2.1 dL_law_676 (by decide) (fun c173 => ?_) (fun c173 => ?_)
        · have hF := ab_pos c173 hF
          exact w_L_law_1511 X hr hX hbl hbA hsz ih (by omega) (by omega) S (lv_sub hl [0, 1, 2, 3] rfl) hF
        · have hF := ab_neg c173 hF
          refine lv_iconst (v := 0) X.1 X.2.1 dL_law_679 (by decide) ?_
          exact absurd hF (by simp)
      have hF := ab_neg c152 hF
      by_cases c174 : (x2 &&& 31) = 9
      · have hF := ab_pos c174 hF
        refine ab_tab (tgt := 681) X dL_law_33 c174 (by decide) (by decide) rfl (by decide) ?_
        refine ab_aload_n X dL_law_681 rfl (lv_at hl 1 rfl) ?_
        refine lv_aload_n X.1 X.2.1 dL_law_682 rfl (lv_at hl 0 rfl) ?_
        refine lv_iload_n X.1 X.2.1 dL_law_683 rfl (lv_at hl 3 rfl) ?_
        refine lv_iconst (v := 1) X.1 X.2.1 dL_law_684 (by decide) ?_
        refine lv_iadd X.1 X.2.1 dL_law_685 ?_
        refine ab_scr X S hX hbl hbA hF dL_law_686 (fun x175 hF => ?_)
        refine lv_aload_n X.1 X.2.1 dL_law_687 rfl (lv_at hl 0 rfl) ?_
        refine lv_iload_n X.1 X.2.1 dL_law_688 rfl (lv_at hl 3 rfl) ?_
        refine lv_iconst (v := 2) X.1 X.2.1 dL_law_689 (by decide) ?_
        refine lv_iadd X.1 X.2.1 dL_law_690 ?_
        refine ab_scr X S hX hbl hbA hF dL_law_691 (fun x176 hF => ?_)
        obtain ⟨a180, e181, hF⟩ := bind_out hF
        obtain ⟨x177, h178, e179, hF⟩ := bnd_out hF
        refine ab_callVi X S e181 (c_X8_method l D cA sz e179) rfl (by decide) mi_X8_method lm_L_58 li_yX8_method ls_yX8_method (As := [.int x175, .int x176]) (rest := []) rfl ⟨by decide, by decide⟩ ⟨(by dsimp only [room_1]; omega), (by dsimp only [room_1]; omega)⟩ hl.1 rfl (by simp [ab_cat, ab_cI, ab_cJ, ab_cD, ab_cF, ab_cA]) dL_law_692 (fun H1 locs1 S => ?_)
        refine ab_aload_n X dL_law_695 rfl (lv_at hl 2 rfl) ?_
        refine lv_aload_n X.1 X.2.1 dL_law_696 rfl (lv_at hl 0 rfl) ?_
        refine lv_iload_n X.1 X.2.1 dL_law_697 rfl (lv_at hl 3 rfl) ?_
        refine lv_iconst (v := 1) X.1 X.2.1 dL_law_698 (by decide) ?_
        refine lv_iadd X.1 X.2.1 dL_law_699 ?_
        refine ab_scr X S hX hbl hbA hF dL_law_700 (fun x182 hF => ?_)
        refine lv_aload_n X.1 X.2.1 dL_law_701 rfl (lv_at hl 0 rfl) ?_
        refine lv_iload_n X.1 X.2.1 dL_law_702 rfl (lv_at hl 3 rfl) ?_
        refine lv_iconst (v := 2) X.1 X.2.1 dL_law_703 (by decide) ?_
        refine lv_iadd X.1 X.2.1 dL_law_704 ?_
        refine ab_scr X S hX hbl hbA hF dL_law_705 (fun x183 hF => ?_)
        obtain ⟨a187, e188, hF⟩ := bind_out hF
        obtain ⟨x184, h185, e186, hF⟩ := bnd_out hF
        refine ab_callVi X S e188 (c_X9_method l D cA sz e186) rfl (by decide) mi_X9_method lm_L_61 li_yX9_method ls_yX9_method (As := [.int x182, .int x183]) (rest := [.int x177]) rfl ⟨by decide, by decide⟩ ⟨(by dsimp only [room_1]; omega), (by dsimp only [room_1]; omega)⟩ hl.1 rfl (by simp [ab_cat, ab_cI, ab_cJ, ab_cD, ab_cF, ab_cA]) dL_law_706 (fun H1 locs1 S => ?_)
        refine lv_icmp_eq (tgt := 1511) X.1 X.2.1 dL_law_709 (by decide) (fun c189 => ?_) (fun c189 => ?_)
        · have hF := ab_pos c189 hF
          exact w_L_law_1511 X hr hX hbl hbA hsz ih (by omega) (by omega) S (lv_sub hl [0, 1, 2, 3] rfl) hF
        · have hF := ab_neg c189 hF
          refine lv_iconst (v := 0) X.1 X.2.1 dL_law_712 (by decide) ?_
          exact absurd hF (by simp)
      have hF := ab_neg c174 hF
      by_cases c190 : (x2 &&& 31) = 10
      · have hF := ab_pos c190 hF
        refine ab_tab (tgt := 714) X dL_law_33 c190 (by decide) (by decide) rfl (by decide) ?_
        refine ab_aload_n X dL_law_714 rfl (lv_at hl 1 rfl) ?_
        refine lv_aload_n X.1 X.2.1 dL_law_715 rfl (lv_at hl 0 rfl) ?_
        refine lv_iload_n X.1 X.2.1 dL_law_716 rfl (lv_at hl 3 rfl) ?_
        refine lv_iconst (v := 1) X.1 X.2.1 dL_law_717 (by decide) ?_
        refine lv_iadd X.1 X.2.1 dL_law_718 ?_
        refine ab_scr X S hX hbl hbA hF dL_law_719 (fun x191 hF => ?_)
        refine lv_aload_n X.1 X.2.1 dL_law_720 rfl (lv_at hl 0 rfl) ?_
        refine lv_iload_n X.1 X.2.1 dL_law_721 rfl (lv_at hl 3 rfl) ?_
        refine lv_iconst (v := 2) X.1 X.2.1 dL_law_722 (by decide) ?_
        refine lv_iadd X.1 X.2.1 dL_law_723 ?_
        refine ab_scr X S hX hbl hbA hF dL_law_724 (fun x192 hF => ?_)
        refine lv_i2l (v := x192.toInt64) X.1 X.2.1 dL_law_725 rfl ?_
        refine lv_bipush (v := 32) X.1 X.2.1 dL_law_726 (by decide) ?_
        refine lv_lshl (v := x192.toInt64 <<< ((32 : Int32).toInt64 &&& 63)) X.1 X.2.1 dL_law_728 rfl ?_
        refine lv_aload_n X.1 X.2.1 dL_law_729 rfl (lv_at hl 0 rfl) ?_
        refine lv_iload_n X.1 X.2.1 dL_law_730 rfl (lv_at hl 3 rfl) ?_
        refine lv_iconst (v := 3) X.1 X.2.1 dL_law_731 (by decide) ?_
        refine lv_iadd X.1 X.2.1 dL_law_732 ?_
        refine ab_scr X S hX hbl hbA hF dL_law_733 (fun x193 hF => ?_)
        refine lv_i2l (v := x193.toInt64) X.1 X.2.1 dL_law_734 rfl ?_
        refine lv_ldc2 (v := (4294967295)) X.1 X.2.1 X.2.2.2.1 (X.2.2.2.2.1 _ ll_L_18) dL_law_735 ?_
        refine lv_land X.1 X.2.1 dL_law_738 ?_
        refine lv_lor X.1 X.2.1 dL_law_739 ?_
        refine lv_aload_n X.1 X.2.1 dL_law_740 rfl (lv_at hl 0 rfl) ?_
        refine lv_iload_n X.1 X.2.1 dL_law_741 rfl (lv_at hl 3 rfl) ?_
        refine lv_iconst (v := 4) X.1 X.2.1 dL_law_742 (by decide) ?_
        refine lv_iadd X.1 X.2.1 dL_law_743 ?_
        refine ab_scr X S hX hbl hbA hF dL_law_744 (fun x194 hF => ?_)
        obtain ⟨a198, e199, hF⟩ := bind_out hF
        obtain ⟨x195, h196, e197, hF⟩ := bnd_out hF
        refine ab_callVi X S e199 (c_X8_length l D cA sz e197) rfl (by decide) mi_X8_length lm_L_62 li_yX8_length ls_yX8_length (As := [.int x191, .long ((x192.toInt64 <<< ((32 : Int32).toInt64 &&& 63)) ||| (x193.toInt64 &&& (4294967295))), .int x194]) (rest := []) rfl ⟨by decide, by decide⟩ ⟨(by dsimp only [room_1]; omega), (by dsimp only [room_1]; omega)⟩ hl.1 rfl (by simp [ab_cat, ab_cI, ab_cJ, ab_cD, ab_cF, ab_cA]) dL_law_745 (fun H1 locs1 S => ?_)
        refine ab_aload_n X dL_law_748 rfl (lv_at hl 2 rfl) ?_
        refine lv_aload_n X.1 X.2.1 dL_law_749 rfl (lv_at hl 0 rfl) ?_
        refine lv_iload_n X.1 X.2.1 dL_law_750 rfl (lv_at hl 3 rfl) ?_
        refine lv_iconst (v := 1) X.1 X.2.1 dL_law_751 (by decide) ?_
        refine lv_iadd X.1 X.2.1 dL_law_752 ?_
        refine ab_scr X S hX hbl hbA hF dL_law_753 (fun x200 hF => ?_)
        refine lv_aload_n X.1 X.2.1 dL_law_754 rfl (lv_at hl 0 rfl) ?_
        refine lv_iload_n X.1 X.2.1 dL_law_755 rfl (lv_at hl 3 rfl) ?_
        refine lv_iconst (v := 2) X.1 X.2.1 dL_law_756 (by decide) ?_
        refine lv_iadd X.1 X.2.1 dL_law_757 ?_
        refine ab_scr X S hX hbl hbA hF dL_law_758 (fun x201 hF => ?_)
        refine lv_i2l (v := x201.toInt64) X.1 X.2.1 dL_law_759 rfl ?_
        refine lv_bipush (v := 32) X.1 X.2.1 dL_law_760 (by decide) ?_
        refine lv_lshl (v := x201.toInt64 <<< ((32 : Int32).toInt64 &&& 63)) X.1 X.2.1 dL_law_762 rfl ?_
        refine lv_aload_n X.1 X.2.1 dL_law_763 rfl (lv_at hl 0 rfl) ?_
        refine lv_iload_n X.1 X.2.1 dL_law_764 rfl (lv_at hl 3 rfl) ?_
        refine lv_iconst (v := 3) X.1 X.2.1 dL_law_765 (by decide) ?_
        refine lv_iadd X.1 X.2.1 dL_law_766 ?_
        refine ab_scr X S hX hbl hbA hF dL_law_767 (fun x202 hF => ?_)
        refine lv_i2l (v := x202.toInt64) X.1 X.2.1 dL_law_768 rfl ?_
        refine lv_ldc2 (v := (4294967295)) X.1 X.2.1 X.2.2.2.1 (X.2.2.2.2.1 _ ll_L_18) dL_law_769 ?_
        refine lv_land X.1 X.2.1 dL_law_772 ?_
        refine lv_lor X.1 X.2.1 dL_law_773 ?_
        refine lv_aload_n X.1 X.2.1 dL_law_774 rfl (lv_at hl 0 rfl) ?_
        refine lv_iload_n X.1 X.2.1 dL_law_775 rfl (lv_at hl 3 rfl) ?_
        refine lv_iconst (v := 4) X.1 X.2.1 dL_law_776 (by decide) ?_
        refine lv_iadd X.1 X.2.1 dL_law_777 ?_
        refine ab_scr X S hX hbl hbA hF dL_law_778 (fun x203 hF => ?_)
        obtain ⟨a207, e208, hF⟩ := bind_out hF
        obtain ⟨x204, h205, e206, hF⟩ := bnd_out hF
        refine ab_callVi X S e208 (c_X9_length l D cA sz e206) rfl (by decide) mi_X9_length lm_L_65 li_yX9_length ls_yX9_length (As := [.int x200, .long ((x201.toInt64 <<< ((32 : Int32).toInt64 &&& 63)) ||| (x202.toInt64 &&& (4294967295))), .int x203]) (rest := [.int x195]) rfl ⟨by decide, by decide⟩ ⟨(by dsimp only [room_1]; omega), (by dsimp only [room_1]; omega)⟩ hl.1 rfl (by simp [ab_cat, ab_cI, ab_cJ, ab_cD, ab_cF, ab_cA]) dL_law_779 (fun H1 locs1 S => ?_)
        refine lv_icmp_eq (tgt := 1511) X.1 X.2.1 dL_law_782 (by decide) (fun c209 => ?_) (fun c209 => ?_)
        · have hF := ab_pos c209 hF
          exact w_L_law_1511 X hr hX hbl hbA hsz ih (by omega) (by omega) S (lv_sub hl [0, 1, 2, 3] rfl) hF
        · have hF := ab_neg c209 hF
          refine lv_iconst (v := 0) X.1 X.2.1 dL_law_785 (by decide) ?_
          exact absurd hF (by simp)
      have hF := ab_neg c190 hF
      by_cases c210 : (x2 &&& 31) = 11
      · have hF := ab_pos c210 hF
        refine ab_tab (tgt := 787) X dL_law_33 c210 (by decide) (by decide) rfl (by decide) ?_
        refine ab_aload_n X dL_law_787 rfl (lv_at hl 1 rfl) ?_
        refine lv_aload_n X.1 X.2.1 dL_law_788 rfl (lv_at hl 0 rfl) ?_
        refine lv_iload_n X.1 X.2.1 dL_law_789 rfl (lv_at hl 3 rfl) ?_
        refine lv_iconst (v := 1) X.1 X.2.1 dL_law_790 (by decide) ?_
        refine lv_iadd X.1 X.2.1 dL_law_791 ?_
        refine ab_scr X S hX hbl hbA hF dL_law_792 (fun x211 hF => ?_)
        refine lv_aload_n X.1 X.2.1 dL_law_793 rfl (lv_at hl 0 rfl) ?_
        refine lv_iload_n X.1 X.2.1 dL_law_794 rfl (lv_at hl 3 rfl) ?_
        refine lv_iconst (v := 2) X.1 X.2.1 dL_law_795 (by decide) ?_
        refine lv_iadd X.1 X.2.1 dL_law_796 ?_
        refine ab_scr X S hX hbl hbA hF dL_law_797 (fun x212 hF => ?_)
        refine lv_i2l (v := x212.toInt64) X.1 X.2.1 dL_law_798 rfl ?_
        refine lv_bipush (v := 32) X.1 X.2.1 dL_law_799 (by decide) ?_
        refine lv_lshl (v := x212.toInt64 <<< ((32 : Int32).toInt64 &&& 63)) X.1 X.2.1 dL_law_801 rfl ?_
        refine lv_aload_n X.1 X.2.1 dL_law_802 rfl (lv_at hl 0 rfl) ?_
        refine lv_iload_n X.1 X.2.1 dL_law_803 rfl (lv_at hl 3 rfl) ?_
        refine lv_iconst (v := 3) X.1 X.2.1 dL_law_804 (by decide) ?_
        refine lv_iadd X.1 X.2.1 dL_law_805 ?_
        refine ab_scr X S hX hbl hbA hF dL_law_806 (fun x213 hF => ?_)
        refine lv_i2l (v := x213.toInt64) X.1 X.2.1 dL_law_807 rfl ?_
        refine lv_ldc2 (v := (4294967295)) X.1 X.2.1 X.2.2.2.1 (X.2.2.2.2.1 _ ll_L_18) dL_law_808 ?_
        refine lv_land X.1 X.2.1 dL_law_811 ?_
        refine lv_lor X.1 X.2.1 dL_law_812 ?_
        refine lv_aload_n X.1 X.2.1 dL_law_813 rfl (lv_at hl 0 rfl) ?_
        refine lv_iload_n X.1 X.2.1 dL_law_814 rfl (lv_at hl 3 rfl) ?_
        refine lv_iconst (v := 4) X.1 X.2.1 dL_law_815 (by decide) ?_
        refine lv_iadd X.1 X.2.1 dL_law_816 ?_
        refine ab_scr X S hX hbl hbA hF dL_law_817 (fun x214 hF => ?_)
        refine lv_i2l (v := x214.toInt64) X.1 X.2.1 dL_law_818 rfl ?_
        refine lv_bipush (v := 32) X.1 X.2.1 dL_law_819 (by decide) ?_
        refine lv_lshl (v := x214.toInt64 <<< ((32 : Int32).toInt64 &&& 63)) X.1 X.2.1 dL_law_821 rfl ?_
        refine lv_aload_n X.1 X.2.1 dL_law_822 rfl (lv_at hl 0 rfl) ?_
        refine lv_iload_n X.1 X.2.1 dL_law_823 rfl (lv_at hl 3 rfl) ?_
        refine lv_iconst (v := 5) X.1 X.2.1 dL_law_824 (by decide) ?_
        refine lv_iadd X.1 X.2.1 dL_law_825 ?_
        refine ab_scr X S hX hbl hbA hF dL_law_826 (fun x215 hF => ?_)
        refine lv_i2l (v := x215.toInt64) X.1 X.2.1 dL_law_827 rfl ?_
        refine lv_ldc2 (v := (4294967295)) X.1 X.2.1 X.2.2.2.1 (X.2.2.2.2.1 _ ll_L_18) dL_law_828 ?_
        refine lv_land X.1 X.2.1 dL_law_831 ?_
        refine lv_lor X.1 X.2.1 dL_law_832 ?_
        refine lv_aload_n X.1 X.2.1 dL_law_833 rfl (lv_at hl 0 rfl) ?_
        refine lv_iload_n X.1 X.2.1 dL_law_834 rfl (lv_at hl 3 rfl) ?_
        refine lv_bipush (v := 6) X.1 X.2.1 dL_law_835 (by decide) ?_
        refine lv_iadd X.1 X.2.1 dL_law_837 ?_
        refine ab_scr X S hX hbl hbA hF dL_law_838 (fun x216 hF => ?_)
        obtain ⟨a220, e221, hF⟩ := bind_out hF
        obtain ⟨x217, h218, e219, hF⟩ := bnd_out hF
        refine ab_callVi X S e221 (c_X8_tolerance l D cA sz e219) rfl (by decide) mi_X8_tolerance lm_L_66 li_yX8_tolerance ls_yX8_tolerance (As := [.int x211, .long ((x212.toInt64 <<< ((32 : Int32).toInt64 &&& 63)) ||| (x213.toInt64 &&& (4294967295))), .long ((x214.toInt64 <<< ((32 : Int32).toInt64 &&& 63)) ||| (x215.toInt64 &&& (4294967295))), .int x216]) (rest := []) rfl ⟨by decide, by decide⟩ ⟨(by dsimp only [room_1]; omega), (by dsimp only [room_1]; omega)⟩ hl.1 rfl (by simp [ab_cat, ab_cI, ab_cJ, ab_cD, ab_cF, ab_cA]) dL_law_839 (fun H1 locs1 S => ?_)
        refine ab_aload_n X dL_law_842 rfl (lv_at hl 2 rfl) ?_
        refine lv_aload_n X.1 X.2.1 dL_law_843 rfl (lv_at hl 0 rfl) ?_
        refine lv_iload_n X.1 X.2.1 dL_law_844 rfl (lv_at hl 3 rfl) ?_
        refine lv_iconst (v := 1) X.1 X.2.1 dL_law_845 (by decide) ?_
        refine lv_iadd X.1 X.2.1 dL_law_846 ?_
        refine ab_scr X S hX hbl hbA hF dL_law_847 (fun x222 hF => ?_)
        refine lv_aload_n X.1 X.2.1 dL_law_848 rfl (lv_at hl 0 rfl) ?_
        refine lv_iload_n X.1 X.2.1 dL_law_849 rfl (lv_at hl 3 rfl) ?_
        refine lv_iconst (v := 2) X.1 X.2.1 dL_law_850 (by decide) ?_
        refine lv_iadd X.1 X.2.1 dL_law_851 ?_
        refine ab_scr X S hX hbl hbA hF dL_law_852 (fun x223 hF => ?_)
        refine lv_i2l (v := x223.toInt64) X.1 X.2.1 dL_law_853 rfl ?_
        refine lv_bipush (v := 32) X.1 X.2.1 dL_law_854 (by decide) ?_
        refine lv_lshl (v := x223.toInt64 <<< ((32 : Int32).toInt64 &&& 63)) X.1 X.2.1 dL_law_856 rfl ?_
        refine lv_aload_n X.1 X.2.1 dL_law_857 rfl (lv_at hl 0 rfl) ?_
        refine lv_iload_n X.1 X.2.1 dL_law_858 rfl (lv_at hl 3 rfl) ?_
        refine lv_iconst (v := 3) X.1 X.2.1 dL_law_859 (by decide) ?_
        refine lv_iadd X.1 X.2.1 dL_law_860 ?_
        refine ab_scr X S hX hbl hbA hF dL_law_861 (fun x224 hF => ?_)
        refine lv_i2l (v := x224.toInt64) X.1 X.2.1 dL_law_862 rfl ?_
        refine lv_ldc2 (v := (4294967295)) X.1 X.2.1 X.2.2.2.1 (X.2.2.2.2.1 _ ll_L_18) dL_law_863 ?_
        refine lv_land X.1 X.2.1 dL_law_866 ?_
        refine lv_lor X.1 X.2.1 dL_law_867 ?_
        refine lv_aload_n X.1 X.2.1 dL_law_868 rfl (lv_at hl 0 rfl) ?_
        refine lv_iload_n X.1 X.2.1 dL_law_869 rfl (lv_at hl 3 rfl) ?_
        refine lv_iconst (v := 4) X.1 X.2.1 dL_law_870 (by decide) ?_
        refine lv_iadd X.1 X.2.1 dL_law_871 ?_
        refine ab_scr X S hX hbl hbA hF dL_law_872 (fun x225 hF => ?_)
        refine lv_i2l (v := x225.toInt64) X.1 X.2.1 dL_law_873 rfl ?_
        refine lv_bipush (v := 32) X.1 X.2.1 dL_law_874 (by decide) ?_
        refine lv_lshl (v := x225.toInt64 <<< ((32 : Int32).toInt64 &&& 63)) X.1 X.2.1 dL_law_876 rfl ?_
        refine lv_aload_n X.1 X.2.1 dL_law_877 rfl (lv_at hl 0 rfl) ?_
        refine lv_iload_n X.1 X.2.1 dL_law_878 rfl (lv_at hl 3 rfl) ?_
        refine lv_iconst (v := 5) X.1 X.2.1 dL_law_879 (by decide) ?_
        refine lv_iadd X.1 X.2.1 dL_law_880 ?_
        refine ab_scr X S hX hbl hbA hF dL_law_881 (fun x226 hF => ?_)
        refine lv_i2l (v := x226.toInt64) X.1 X.2.1 dL_law_882 rfl ?_
        refine lv_ldc2 (v := (4294967295)) X.1 X.2.1 X.2.2.2.1 (X.2.2.2.2.1 _ ll_L_18) dL_law_883 ?_
        refine lv_land X.1 X.2.1 dL_law_886 ?_
        refine lv_lor X.1 X.2.1 dL_law_887 ?_
        refine lv_aload_n X.1 X.2.1 dL_law_888 rfl (lv_at hl 0 rfl) ?_
        refine lv_iload_n X.1 X.2.1 dL_law_889 rfl (lv_at hl 3 rfl) ?_
        refine lv_bipush (v := 6) X.1 X.2.1 dL_law_890 (by decide) ?_
        refine lv_iadd X.1 X.2.1 dL_law_892 ?_
        refine ab_scr X S hX hbl hbA hF dL_law_893 (fun x227 hF => ?_)
        obtain ⟨a231, e232, hF⟩ := bind_out hF
        obtain ⟨x228, h229, e230, hF⟩ := bnd_out hF
        refine ab_callVi X S e232 (c_X9_tolerance l D cA sz e230) rfl (by decide) mi_X9_tolerance lm_L_69 li_yX9_tolerance ls_yX9_tolerance (As := [.int x222, .long ((x223.toInt64 <<< ((32 : Int32).toInt64 &&& 63)) ||| (x224.toInt64 &&& (4294967295))), .long ((x225.toInt64 <<< ((32 : Int32).toInt64 &&& 63)) ||| (x226.toInt64 &&& (4294967295))), .int x227]) (rest := [.int x217]) rfl ⟨by decide, by decide⟩ ⟨(by dsimp only [room_1]; omega), (by dsimp only [room_1]; omega)⟩ hl.1 rfl (by simp [ab_cat, ab_cI, ab_cJ, ab_cD, ab_cF, ab_cA]) dL_law_894 (fun H1 locs1 S => ?_)
        refine lv_icmp_eq (tgt := 1511) X.1 X.2.1 dL_law_897 (by decide) (fun c233 => ?_) (fun c233 => ?_)
        · have hF := ab_pos c233 hF
          exact w_L_law_1511 X hr hX hbl hbA hsz ih (by omega) (by omega) S (lv_sub hl [0, 1, 2, 3] rfl) hF
        · have hF := ab_neg c233 hF
          refine lv_iconst (v := 0) X.1 X.2.1 dL_law_900 (by decide) ?_
          exact absurd hF (by simp)
      have hF := ab_neg c210 hF
      by_cases c234 : (x2 &&& 31) = 12
      · have hF := ab_pos c234 hF
        refine ab_tab (tgt := 902) X dL_law_33 c234 (by decide) (by decide) rfl (by decide) ?_
        refine ab_aload_n X dL_law_902 rfl (lv_at hl 1 rfl) ?_
        refine lv_aload_n X.1 X.2.1 dL_law_903 rfl (lv_at hl 0 rfl) ?_
        refine lv_iload_n X.1 X.2.1 dL_law_904 rfl (lv_at hl 3 rfl) ?_
        refine lv_iconst (v := 1) X.1 X.2.1 dL_law_905 (by decide) ?_
        refine lv_iadd X.1 X.2.1 dL_law_906 ?_
        refine ab_scr X S hX hbl hbA hF dL_law_907 (fun x235 hF => ?_)
        refine lv_aload_n X.1 X.2.1 dL_law_908 rfl (lv_at hl 0 rfl) ?_
        refine lv_iload_n X.1 X.2.1 dL_law_909 rfl (lv_at hl 3 rfl) ?_
        refine lv_iconst (v := 2) X.1 X.2.1 dL_law_910 (by decide) ?_
        refine lv_iadd X.1 X.2.1 dL_law_911 ?_
        refine ab_scr X S hX hbl hbA hF dL_law_912 (fun x236 hF => ?_)
        refine lv_aload_n X.1 X.2.1 dL_law_913 rfl (lv_at hl 0 rfl) ?_
        refine lv_iload_n X.1 X.2.1 dL_law_914 rfl (lv_at hl 3 rfl) ?_
        refine lv_iconst (v := 3) X.1 X.2.1 dL_law_915 (by decide) ?_
        refine lv_iadd X.1 X.2.1 dL_law_916 ?_
        refine ab_scr X S hX hbl hbA hF dL_law_917 (fun x237 hF => ?_)
        refine lv_aload_n X.1 X.2.1 dL_law_918 rfl (lv_at hl 0 rfl) ?_
        refine lv_iload_n X.1 X.2.1 dL_law_919 rfl (lv_at hl 3 rfl) ?_
        refine lv_iconst (v := 4) X.1 X.2.1 dL_law_920 (by decide) ?_
        refine lv_iadd X.1 X.2.1 dL_law_921 ?_
        refine ab_scr X S hX hbl hbA hF dL_law_922 (fun x238 hF => ?_)
        refine lv_aload_n X.1 X.2.1 dL_law_923 rfl (lv_at hl 0 rfl) ?_
        refine lv_iload_n X.1 X.2.1 dL_law_924 rfl (lv_at hl 3 rfl) ?_
        refine lv_iconst (v := 5) X.1 X.2.1 dL_law_925 (by decide) ?_
        refine lv_iadd X.1 X.2.1 dL_law_926 ?_
        refine ab_scr X S hX hbl hbA hF dL_law_927 (fun x239 hF => ?_)
        obtain ⟨a243, e244, hF⟩ := bind_out hF
        obtain ⟨x240, h241, e242, hF⟩ := bnd_out hF
        refine ab_callVi X S e244 (c_X8_event l D cA sz e242) rfl (by decide) mi_X8_event lm_L_70 li_yX8_event ls_yX8_event (As := [.int x235, .int x236, .int x237, .int x238, .int x239]) (rest := []) rfl ⟨by decide, by decide⟩ ⟨(by dsimp only [room_1]; omega), (by dsimp only [room_1]; omega)⟩ hl.1 rfl (by simp [ab_cat, ab_cI, ab_cJ, ab_cD, ab_cF, ab_cA]) dL_law_928 (fun H1 locs1 S => ?_)
        refine ab_aload_n X dL_law_931 rfl (lv_at hl 2 rfl) ?_
        refine lv_aload_n X.1 X.2.1 dL_law_932 rfl (lv_at hl 0 rfl) ?_
        refine lv_iload_n X.1 X.2.1 dL_law_933 rfl (lv_at hl 3 rfl) ?_
        refine lv_iconst (v := 1) X.1 X.2.1 dL_law_934 (by decide) ?_
        refine lv_iadd X.1 X.2.1 dL_law_935 ?_
        refine ab_scr X S hX hbl hbA hF dL_law_936 (fun x245 hF => ?_)
        refine lv_aload_n X.1 X.2.1 dL_law_937 rfl (lv_at hl 0 rfl) ?_
        refine lv_iload_n X.1 X.2.1 dL_law_938 rfl (lv_at hl 3 rfl) ?_
        refine lv_iconst (v := 2) X.1 X.2.1 dL_law_939 (by decide) ?_
        refine lv_iadd X.1 X.2.1 dL_law_940 ?_
        refine ab_scr X S hX hbl hbA hF dL_law_941 (fun x246 hF => ?_)
        refine lv_aload_n X.1 X.2.1 dL_law_942 rfl (lv_at hl 0 rfl) ?_
        refine lv_iload_n X.1 X.2.1 dL_law_943 rfl (lv_at hl 3 rfl) ?_
        refine lv_iconst (v := 3) X.1 X.2.1 dL_law_944 (by decide) ?_
        refine lv_iadd X.1 X.2.1 dL_law_945 ?_
        refine ab_scr X S hX hbl hbA hF dL_law_946 (fun x247 hF => ?_)
        refine lv_aload_n X.1 X.2.1 dL_law_947 rfl (lv_at hl 0 rfl) ?_
        refine lv_iload_n X.1 X.2.1 dL_law_948 rfl (lv_at hl 3 rfl) ?_
        refine lv_iconst (v := 4) X.1 X.2.1 dL_law_949 (by decide) ?_
        refine lv_iadd X.1 X.2.1 dL_law_950 ?_
        refine ab_scr X S hX hbl hbA hF dL_law_951 (fun x248 hF => ?_)
        refine lv_aload_n X.1 X.2.1 dL_law_952 rfl (lv_at hl 0 rfl) ?_
        refine lv_iload_n X.1 X.2.1 dL_law_953 rfl (lv_at hl 3 rfl) ?_
        refine lv_iconst (v := 5) X.1 X.2.1 dL_law_954 (by decide) ?_
        refine lv_iadd X.1 X.2.1 dL_law_955 ?_
        refine ab_scr X S hX hbl hbA hF dL_law_956 (fun x249 hF => ?_)
        obtain ⟨a253, e254, hF⟩ := bind_out hF
        obtain ⟨x250, h251, e252, hF⟩ := bnd_out hF
        refine ab_callVi X S e254 (c_X9_event l D cA sz e252) rfl (by decide) mi_X9_event lm_L_73 li_yX9_event ls_yX9_event (As := [.int x245, .int x246, .int x247, .int x248, .int x249]) (rest := [.int x240]) rfl ⟨by decide, by decide⟩ ⟨(by dsimp only [room_1]; omega), (by dsimp only [room_1]; omega)⟩ hl.1 rfl (by simp [ab_cat, ab_cI, ab_cJ, ab_cD, ab_cF, ab_cA]) dL_law_957 (fun H1 locs1 S => ?_)
        refine lv_icmp_eq (tgt := 1511) X.1 X.2.1 dL_law_960 (by decide) (fun c255 => ?_) (fun c255 => ?_)
        · have hF := ab_pos c255 hF
          exact w_L_law_1511 X hr hX hbl hbA hsz ih (by omega) (by omega) S (lv_sub hl [0, 1, 2, 3] rfl) hF
        · have hF := ab_neg c255 hF
          refine lv_iconst (v := 0) X.1 X.2.1 dL_law_963 (by decide) ?_
          exact absurd hF (by simp)
      have hF := ab_neg c234 hF
      by_cases c256 : (x2 &&& 31) = 13
      · have hF := ab_pos c256 hF
        refine ab_tab (tgt := 965) X dL_law_33 c256 (by decide) (by decide) rfl (by decide) ?_
        refine ab_aload_n X dL_law_965 rfl (lv_at hl 1 rfl) ?_
        refine lv_aload_n X.1 X.2.1 dL_law_966 rfl (lv_at hl 0 rfl) ?_
        refine lv_iload_n X.1 X.2.1 dL_law_967 rfl (lv_at hl 3 rfl) ?_
        refine lv_iconst (v := 1) X.1 X.2.1 dL_law_968 (by decide) ?_
        refine lv_iadd X.1 X.2.1 dL_law_969 ?_
        refine ab_scr X S hX hbl hbA hF dL_law_970 (fun x257 hF => ?_)
        obtain ⟨a261, e262, hF⟩ := bind_out hF
        obtain ⟨x258, h259, e260, hF⟩ := bnd_out hF
        refine ab_callVi X S e262 (c_X8_step l D cA sz e260) rfl (by decide) mi_X8_step lm_L_74 li_yX8_step ls_yX8_step (As := [.int x257]) (rest := []) rfl ⟨by decide, by decide⟩ ⟨(by dsimp only [room_1]; omega), (by dsimp only [room_1]; omega)⟩ hl.1 rfl (by simp [ab_cat, ab_cI, ab_cJ, ab_cD, ab_cF, ab_cA]) dL_law_971 (fun H1 locs1 S => ?_)
        refine ab_aload_n X dL_law_974 rfl (lv_at hl 2 rfl) ?_
        refine lv_aload_n X.1 X.2.1 dL_law_975 rfl (lv_at hl 0 rfl) ?_
        refine lv_iload_n X.1 X.2.1 dL_law_976 rfl (lv_at hl 3 rfl) ?_
        refine lv_iconst (v := 1) X.1 X.2.1 dL_law_977 (by decide) ?_
        refine lv_iadd X.1 X.2.1 dL_law_978 ?_
        refine ab_scr X S hX hbl hbA hF dL_law_979 (fun x263 hF => ?_)
        obtain ⟨a267, e268, hF⟩ := bind_out hF
        obtain ⟨x264, h265, e266, hF⟩ := bnd_out hF
        refine ab_callVi X S e268 (c_X9_step l D cA sz e266) rfl (by decide) mi_X9_step lm_L_77 li_yX9_step ls_yX9_step (As := [.int x263]) (rest := [.int x258]) rfl ⟨by decide, by decide⟩ ⟨(by dsimp only [room_1]; omega), (by dsimp only [room_1]; omega)⟩ hl.1 rfl (by simp [ab_cat, ab_cI, ab_cJ, ab_cD, ab_cF, ab_cA]) dL_law_980 (fun H1 locs1 S => ?_)
        refine lv_icmp_eq (tgt := 1511) X.1 X.2.1 dL_law_983 (by decide) (fun c269 => ?_) (fun c269 => ?_)
        · have hF := ab_pos c269 hF
          exact w_L_law_1511 X hr hX hbl hbA hsz ih (by omega) (by omega) S (lv_sub hl [0, 1, 2, 3] rfl) hF
        · have hF := ab_neg c269 hF
          refine lv_iconst (v := 0) X.1 X.2.1 dL_law_986 (by decide) ?_
          exact absurd hF (by simp)
      have hF := ab_neg c256 hF
      by_cases c270 : (x2 &&& 31) = 14
      · have hF := ab_pos c270 hF
        refine ab_tab (tgt := 988) X dL_law_33 c270 (by decide) (by decide) rfl (by decide) ?_
        refine ab_aload_n X dL_law_988 rfl (lv_at hl 1 rfl) ?_
        refine lv_aload_n X.1 X.2.1 dL_law_989 rfl (lv_at hl 0 rfl) ?_
        refine lv_iload_n X.1 X.2.1 dL_law_990 rfl (lv_at hl 3 rfl) ?_
        refine lv_iconst (v := 1) X.1 X.2.1 dL_law_991 (by decide) ?_
        refine lv_iadd X.1 X.2.1 dL_law_992 ?_
        refine ab_scr X S hX hbl hbA hF dL_law_993 (fun x271 hF => ?_)
        refine lv_aload_n X.1 X.2.1 dL_law_994 rfl (lv_at hl 0 rfl) ?_
        refine lv_iload_n X.1 X.2.1 dL_law_995 rfl (lv_at hl 3 rfl) ?_
        refine lv_iconst (v := 2) X.1 X.2.1 dL_law_996 (by decide) ?_
        refine lv_iadd X.1 X.2.1 dL_law_997 ?_
        refine ab_scr X S hX hbl hbA hF dL_law_998 (fun x272 hF => ?_)
        refine lv_i2l (v := x272.toInt64) X.1 X.2.1 dL_law_999 rfl ?_
        refine lv_bipush (v := 32) X.1 X.2.1 dL_law_1000 (by decide) ?_
        refine lv_lshl (v := x272.toInt64 <<< ((32 : Int32).toInt64 &&& 63)) X.1 X.2.1 dL_law_1002 rfl ?_
        refine lv_aload_n X.1 X.2.1 dL_law_1003 rfl (lv_at hl 0 rfl) ?_
        refine lv_iload_n X.1 X.2.1 dL_law_1004 rfl (lv_at hl 3 rfl) ?_
        refine lv_iconst (v := 3) X.1 X.2.1 dL_law_1005 (by decide) ?_
        refine lv_iadd X.1 X.2.1 dL_law_1006 ?_
        refine ab_scr X S hX hbl hbA hF dL_law_1007 (fun x273 hF => ?_)
        refine lv_i2l (v := x273.toInt64) X.1 X.2.1 dL_law_1008 rfl ?_
        refine lv_ldc2 (v := (4294967295)) X.1 X.2.1 X.2.2.2.1 (X.2.2.2.2.1 _ ll_L_18) dL_law_1009 ?_
        refine lv_land X.1 X.2.1 dL_law_1012 ?_
        refine lv_lor X.1 X.2.1 dL_law_1013 ?_
        refine lv_aload_n X.1 X.2.1 dL_law_1014 rfl (lv_at hl 0 rfl) ?_
        refine lv_iload_n X.1 X.2.1 dL_law_1015 rfl (lv_at hl 3 rfl) ?_
        refine lv_iconst (v := 4) X.1 X.2.1 dL_law_1016 (by decide) ?_
        refine lv_iadd X.1 X.2.1 dL_law_1017 ?_
        refine ab_scr X S hX hbl hbA hF dL_law_1018 (fun x274 hF => ?_)
        refine lv_aload_n X.1 X.2.1 dL_law_1019 rfl (lv_at hl 0 rfl) ?_
        refine lv_iload_n X.1 X.2.1 dL_law_1020 rfl (lv_at hl 3 rfl) ?_
        refine lv_iconst (v := 5) X.1 X.2.1 dL_law_1021 (by decide) ?_
        refine lv_iadd X.1 X.2.1 dL_law_1022 ?_
        refine ab_scr X S hX hbl hbA hF dL_law_1023 (fun x275 hF => ?_)
        obtain ⟨a279, e280, hF⟩ := bind_out hF
        obtain ⟨x276, h277, e278, hF⟩ := bnd_out hF
        refine ab_callVxi X S e280 (c_X8_to l D cA sz e278) rfl (by decide) mi_X8_to lm_L_78 li_yX8_to ls_yX8_to (As := [.int x271, .long ((x272.toInt64 <<< ((32 : Int32).toInt64 &&& 63)) ||| (x273.toInt64 &&& (4294967295))), .int x274, .int x275]) (rest := []) rfl ⟨by decide, by decide⟩ ⟨(by dsimp only [room_1]; omega), (by dsimp only [room_1]; omega)⟩ hl.1 rfl (by simp [ab_cat, ab_cI, ab_cJ, ab_cD, ab_cF, ab_cA]) dL_law_1024 (fun H1 locs1 S => ?_)
        refine ab_aload_n X dL_law_1027 rfl (lv_at hl 2 rfl) ?_
        refine lv_aload_n X.1 X.2.1 dL_law_1028 rfl (lv_at hl 0 rfl) ?_
        refine lv_iload_n X.1 X.2.1 dL_law_1029 rfl (lv_at hl 3 rfl) ?_
        refine lv_iconst (v := 1) X.1 X.2.1 dL_law_1030 (by decide) ?_
        refine lv_iadd X.1 X.2.1 dL_law_1031 ?_
        refine ab_scr X S hX hbl hbA hF dL_law_1032 (fun x281 hF => ?_)
        refine lv_aload_n X.1 X.2.1 dL_law_1033 rfl (lv_at hl 0 rfl) ?_
        refine lv_iload_n X.1 X.2.1 dL_law_1034 rfl (lv_at hl 3 rfl) ?_
        refine lv_iconst (v := 2) X.1 X.2.1 dL_law_1035 (by decide) ?_
        refine lv_iadd X.1 X.2.1 dL_law_1036 ?_
        refine ab_scr X S hX hbl hbA hF dL_law_1037 (fun x282 hF => ?_)
        refine lv_i2l (v := x282.toInt64) X.1 X.2.1 dL_law_1038 rfl ?_
        refine lv_bipush (v := 32) X.1 X.2.1 dL_law_1039 (by decide) ?_
        refine lv_lshl (v := x282.toInt64 <<< ((32 : Int32).toInt64 &&& 63)) X.1 X.2.1 dL_law_1041 rfl ?_
        refine lv_aload_n X.1 X.2.1 dL_law_1042 rfl (lv_at hl 0 rfl) ?_
        refine lv_iload_n X.1 X.2.1 dL_law_1043 rfl (lv_at hl 3 rfl) ?_
        refine lv_iconst (v := 3) X.1 X.2.1 dL_law_1044 (by decide) ?_
        refine lv_iadd X.1 X.2.1 dL_law_1045 ?_
        refine ab_scr X S hX hbl hbA hF dL_law_1046 (fun x283 hF => ?_)
        refine lv_i2l (v := x283.toInt64) X.1 X.2.1 dL_law_1047 rfl ?_
        refine lv_ldc2 (v := (4294967295)) X.1 X.2.1 X.2.2.2.1 (X.2.2.2.2.1 _ ll_L_18) dL_law_1048 ?_
        refine lv_land X.1 X.2.1 dL_law_1051 ?_
        refine lv_lor X.1 X.2.1 dL_law_1052 ?_
        refine lv_aload_n X.1 X.2.1 dL_law_1053 rfl (lv_at hl 0 rfl) ?_
        refine lv_iload_n X.1 X.2.1 dL_law_1054 rfl (lv_at hl 3 rfl) ?_
        refine lv_iconst (v := 4) X.1 X.2.1 dL_law_1055 (by decide) ?_
        refine lv_iadd X.1 X.2.1 dL_law_1056 ?_
        refine ab_scr X S hX hbl hbA hF dL_law_1057 (fun x284 hF => ?_)
        refine lv_aload_n X.1 X.2.1 dL_law_1058 rfl (lv_at hl 0 rfl) ?_
        refine lv_iload_n X.1 X.2.1 dL_law_1059 rfl (lv_at hl 3 rfl) ?_
        refine lv_iconst (v := 5) X.1 X.2.1 dL_law_1060 (by decide) ?_
        refine lv_iadd X.1 X.2.1 dL_law_1061 ?_
        refine ab_scr X S hX hbl hbA hF dL_law_1062 (fun x285 hF => ?_)
        obtain ⟨a289, e290, hF⟩ := bind_out hF
        obtain ⟨x286, h287, e288, hF⟩ := bnd_out hF
        refine ab_callVi X S e290 (c_X9_to l D cA sz e288) rfl (by decide) mi_X9_to lm_L_82 li_yX9_to ls_yX9_to (As := [.int x281, .long ((x282.toInt64 <<< ((32 : Int32).toInt64 &&& 63)) ||| (x283.toInt64 &&& (4294967295))), .int x284, .int x285]) (rest := [.int x276]) rfl ⟨by decide, by decide⟩ ⟨(by dsimp only [room_1]; omega), (by dsimp only [room_1]; omega)⟩ hl.1 rfl (by simp [ab_cat, ab_cI, ab_cJ, ab_cD, ab_cF, ab_cA]) dL_law_1063 (fun H1 locs1 S => ?_)
        refine lv_icmp_eq (tgt := 1511) X.1 X.2.1 dL_law_1066 (by decide) (fun c291 => ?_) (fun c291 => ?_)
        · have hF := ab_pos c291 hF
          exact w_L_law_1511 X hr hX hbl hbA hsz ih (by omega) (by omega) S (lv_sub hl [0, 1, 2, 3] rfl) hF
        · have hF := ab_neg c291 hF
          refine lv_iconst (v := 0) X.1 X.2.1 dL_law_1069 (by decide) ?_
          exact absurd hF (by simp)
      have hF := ab_neg c270 hF
      by_cases c292 : (x2 &&& 31) = 15
      · have hF := ab_pos c292 hF
        refine ab_tab (tgt := 1071) X dL_law_33 c292 (by decide) (by decide) rfl (by decide) ?_
        refine ab_aload_n X dL_law_1071 rfl (lv_at hl 1 rfl) ?_
        refine lv_aload_n X.1 X.2.1 dL_law_1072 rfl (lv_at hl 0 rfl) ?_
        refine lv_iload_n X.1 X.2.1 dL_law_1073 rfl (lv_at hl 3 rfl) ?_
        refine lv_iconst (v := 1) X.1 X.2.1 dL_law_1074 (by decide) ?_
        refine lv_iadd X.1 X.2.1 dL_law_1075 ?_
        refine ab_scr X S hX hbl hbA hF dL_law_1076 (fun x293 hF => ?_)
        refine lv_aload_n X.1 X.2.1 dL_law_1077 rfl (lv_at hl 0 rfl) ?_
        refine lv_iload_n X.1 X.2.1 dL_law_1078 rfl (lv_at hl 3 rfl) ?_
        refine lv_iconst (v := 2) X.1 X.2.1 dL_law_1079 (by decide) ?_
        refine lv_iadd X.1 X.2.1 dL_law_1080 ?_
        refine ab_scr X S hX hbl hbA hF dL_law_1081 (fun x294 hF => ?_)
        obtain ⟨a298, e299, hF⟩ := bind_out hF
        obtain ⟨x295, h296, e297, hF⟩ := bnd_out hF
        refine ab_callVl X S e299 (c_X8_state l D cA sz e297) rfl (by decide) mi_X8_state lm_L_83 li_yX8_state ls_yX8_state (As := [.int x293, .int x294]) (rest := []) rfl ⟨by decide, by decide⟩ ⟨(by dsimp only [room_1]; omega), (by dsimp only [room_1]; omega)⟩ hl.1 rfl (by simp [ab_cat, ab_cI, ab_cJ, ab_cD, ab_cF, ab_cA]) dL_law_1082 (fun H1 locs1 S => ?_)
        refine ab_aload_n X dL_law_1085 rfl (lv_at hl 2 rfl) ?_
        refine lv_aload_n X.1 X.2.1 dL_law_1086 rfl (lv_at hl 0 rfl) ?_
        refine lv_iload_n X.1 X.2.1 dL_law_1087 rfl (lv_at hl 3 rfl) ?_
        refine lv_iconst (v := 1) X.1 X.2.1 dL_law_1088 (by decide) ?_
        refine lv_iadd X.1 X.2.1 dL_law_1089 ?_
        refine ab_scr X S hX hbl hbA hF dL_law_1090 (fun x300 hF => ?_)
        refine lv_aload_n X.1 X.2.1 dL_law_1091 rfl (lv_at hl 0 rfl) ?_
        refine lv_iload_n X.1 X.2.1 dL_law_1092 rfl (lv_at hl 3 rfl) ?_
        refine lv_iconst (v := 2) X.1 X.2.1 dL_law_1093 (by decide) ?_
        refine lv_iadd X.1 X.2.1 dL_law_1094 ?_
        refine ab_scr X S hX hbl hbA hF dL_law_1095 (fun x301 hF => ?_)
        obtain ⟨a305, e306, hF⟩ := bind_out hF
        obtain ⟨x302, h303, e304, hF⟩ := bnd_out hF
        refine ab_callVl X S e306 (c_X9_state l D cA sz e304) rfl (by decide) mi_X9_state lm_L_87 li_yX9_state ls_yX9_state (As := [.int x300, .int x301]) (rest := [.long x295]) rfl ⟨by decide, by decide⟩ ⟨(by dsimp only [room_1]; omega), (by dsimp only [room_1]; omega)⟩ hl.1 rfl (by simp [ab_cat, ab_cI, ab_cJ, ab_cD, ab_cF, ab_cA]) dL_law_1096 (fun H1 locs1 S => ?_)
        refine W.lcmp X.1 X.2.1 dL_law_1099 ?_
        refine lv_if_eq (tgt := 1511) X.1 X.2.1 dL_law_1100 (by decide) (fun c307 => ?_) (fun c307 => ?_)
        · have hF := ab_pos c307 hF
          exact w_L_law_1511 X hr hX hbl hbA hsz ih (by omega) (by omega) S (lv_sub hl [0, 1, 2, 3] rfl) hF
        · have hF := ab_neg c307 hF
          refine lv_iconst (v := 0) X.1 X.2.1 dL_law_1103 (by decide) ?_
          exact absurd hF (by simp)
      have hF := ab_neg c292 hF
      by_cases c308 : (x2 &&& 31) = 16
      · have hF := ab_pos c308 hF
        refine ab_tab (tgt := 1105) X dL_law_33 c308 (by decide) (by decide) rfl (by decide) ?_
        refine ab_aload_n X dL_law_1105 rfl (lv_at hl 1 rfl) ?_
        refine lv_aload_n X.1 X.2.1 dL_law_1106 rfl (lv_at hl 0 rfl) ?_
        refine lv_iload_n X.1 X.2.1 dL_law_1107 rfl (lv_at hl 3 rfl) ?_
        refine lv_iconst (v := 1) X.1 X.2.1 dL_law_1108 (by decide) ?_
        refine lv_iadd X.1 X.2.1 dL_law_1109 ?_
        refine ab_scr X S hX hbl hbA hF dL_law_1110 (fun x309 hF => ?_)
        refine lv_aload_n X.1 X.2.1 dL_law_1111 rfl (lv_at hl 0 rfl) ?_
        refine lv_iload_n X.1 X.2.1 dL_law_1112 rfl (lv_at hl 3 rfl) ?_
        refine lv_iconst (v := 2) X.1 X.2.1 dL_law_1113 (by decide) ?_
        refine lv_iadd X.1 X.2.1 dL_law_1114 ?_
        refine ab_scr X S hX hbl hbA hF dL_law_1115 (fun x310 hF => ?_)
        obtain ⟨a314, e315, hF⟩ := bind_out hF
        obtain ⟨x311, h312, e313, hF⟩ := bnd_out hF
        refine ab_callVl X S e315 (c_X8_clock l D cA sz e313) rfl (by decide) mi_X8_clock lm_L_88 li_yX8_clock ls_yX8_clock (As := [.int x309, .int x310]) (rest := []) rfl ⟨by decide, by decide⟩ ⟨(by dsimp only [room_1]; omega), (by dsimp only [room_1]; omega)⟩ hl.1 rfl (by simp [ab_cat, ab_cI, ab_cJ, ab_cD, ab_cF, ab_cA]) dL_law_1116 (fun H1 locs1 S => ?_)
        refine ab_aload_n X dL_law_1119 rfl (lv_at hl 2 rfl) ?_
        refine lv_aload_n X.1 X.2.1 dL_law_1120 rfl (lv_at hl 0 rfl) ?_
        refine lv_iload_n X.1 X.2.1 dL_law_1121 rfl (lv_at hl 3 rfl) ?_
        refine lv_iconst (v := 1) X.1 X.2.1 dL_law_1122 (by decide) ?_
        refine lv_iadd X.1 X.2.1 dL_law_1123 ?_
        refine ab_scr X S hX hbl hbA hF dL_law_1124 (fun x316 hF => ?_)
        refine lv_aload_n X.1 X.2.1 dL_law_1125 rfl (lv_at hl 0 rfl) ?_
        refine lv_iload_n X.1 X.2.1 dL_law_1126 rfl (lv_at hl 3 rfl) ?_
        refine lv_iconst (v := 2) X.1 X.2.1 dL_law_1127 (by decide) ?_
        refine lv_iadd X.1 X.2.1 dL_law_1128 ?_
        refine ab_scr X S hX hbl hbA hF dL_law_1129 (fun x317 hF => ?_)
        obtain ⟨a321, e322, hF⟩ := bind_out hF
        obtain ⟨x318, h319, e320, hF⟩ := bnd_out hF
        refine ab_callVl X S e322 (c_X9_clock l D cA sz e320) rfl (by decide) mi_X9_clock lm_L_91 li_yX9_clock ls_yX9_clock (As := [.int x316, .int x317]) (rest := [.long x311]) rfl ⟨by decide, by decide⟩ ⟨(by dsimp only [room_1]; omega), (by dsimp only [room_1]; omega)⟩ hl.1 rfl (by simp [ab_cat, ab_cI, ab_cJ, ab_cD, ab_cF, ab_cA]) dL_law_1130 (fun H1 locs1 S => ?_)
        refine W.lcmp X.1 X.2.1 dL_law_1133 ?_
        refine lv_if_eq (tgt := 1511) X.1 X.2.1 dL_law_1134 (by decide) (fun c323 => ?_) (fun c323 => ?_)
        · have hF := ab_pos c323 hF
          exact w_L_law_1511 X hr hX hbl hbA hsz ih (by omega) (by omega) S (lv_sub hl [0, 1, 2, 3] rfl) hF
        · have hF := ab_neg c323 hF
          refine lv_iconst (v := 0) X.1 X.2.1 dL_law_1137 (by decide) ?_
          exact absurd hF (by simp)
      have hF := ab_neg c308 hF
      by_cases c324 : (x2 &&& 31) = 17
      · have hF := ab_pos c324 hF
        refine ab_tab (tgt := 1139) X dL_law_33 c324 (by decide) (by decide) rfl (by decide) ?_
        refine ab_aload_n X dL_law_1139 rfl (lv_at hl 1 rfl) ?_
        refine lv_aload_n X.1 X.2.1 dL_law_1140 rfl (lv_at hl 0 rfl) ?_
        refine lv_iload_n X.1 X.2.1 dL_law_1141 rfl (lv_at hl 3 rfl) ?_
        refine lv_iconst (v := 1) X.1 X.2.1 dL_law_1142 (by decide) ?_
        refine lv_iadd X.1 X.2.1 dL_law_1143 ?_
        refine ab_scr X S hX hbl hbA hF dL_law_1144 (fun x325 hF => ?_)
        refine lv_aload_n X.1 X.2.1 dL_law_1145 rfl (lv_at hl 0 rfl) ?_
        refine lv_iload_n X.1 X.2.1 dL_law_1146 rfl (lv_at hl 3 rfl) ?_
        refine lv_iconst (v := 2) X.1 X.2.1 dL_law_1147 (by decide) ?_
        refine lv_iadd X.1 X.2.1 dL_law_1148 ?_
        refine ab_scr X S hX hbl hbA hF dL_law_1149 (fun x326 hF => ?_)
        obtain ⟨a330, e331, hF⟩ := bind_out hF
        obtain ⟨x327, h328, e329, hF⟩ := bnd_out hF
        refine ab_callVi X S e331 (c_X8_count l D cA sz e329) rfl (by decide) mi_X8_count lm_L_92 li_yX8_count ls_yX8_count (As := [.int x325, .int x326]) (rest := []) rfl ⟨by decide, by decide⟩ ⟨(by dsimp only [room_1]; omega), (by dsimp only [room_1]; omega)⟩ hl.1 rfl (by simp [ab_cat, ab_cI, ab_cJ, ab_cD, ab_cF, ab_cA]) dL_law_1150 (fun H1 locs1 S => ?_)
        refine ab_aload_n X dL_law_1153 rfl (lv_at hl 2 rfl) ?_
        refine lv_aload_n X.1 X.2.1 dL_law_1154 rfl (lv_at hl 0 rfl) ?_
        refine lv_iload_n X.1 X.2.1 dL_law_1155 rfl (lv_at hl 3 rfl) ?_
        refine lv_iconst (v := 1) X.1 X.2.1 dL_law_1156 (by decide) ?_
        refine lv_iadd X.1 X.2.1 dL_law_1157 ?_
        refine ab_scr X S hX hbl hbA hF dL_law_1158 (fun x332 hF => ?_)
        refine lv_aload_n X.1 X.2.1 dL_law_1159 rfl (lv_at hl 0 rfl) ?_
        refine lv_iload_n X.1 X.2.1 dL_law_1160 rfl (lv_at hl 3 rfl) ?_
        refine lv_iconst (v := 2) X.1 X.2.1 dL_law_1161 (by decide) ?_
        refine lv_iadd X.1 X.2.1 dL_law_1162 ?_
        refine ab_scr X S hX hbl hbA hF dL_law_1163 (fun x333 hF => ?_)
        obtain ⟨a337, e338, hF⟩ := bind_out hF
        obtain ⟨x334, h335, e336, hF⟩ := bnd_out hF
        refine ab_callVi X S e338 (c_X9_count l D cA sz e336) rfl (by decide) mi_X9_count lm_L_95 li_yX9_count ls_yX9_count (As := [.int x332, .int x333]) (rest := [.int x327]) rfl ⟨by decide, by decide⟩ ⟨(by dsimp only [room_1]; omega), (by dsimp only [room_1]; omega)⟩ hl.1 rfl (by simp [ab_cat, ab_cI, ab_cJ, ab_cD, ab_cF, ab_cA]) dL_law_1164 (fun H1 locs1 S => ?_)
        refine lv_icmp_eq (tgt := 1511) X.1 X.2.1 dL_law_1167 (by decide) (fun c339 => ?_) (fun c339 => ?_)
        · have hF := ab_pos c339 hF
          exact w_L_law_1511 X hr hX hbl hbA hsz ih (by omega) (by omega) S (lv_sub hl [0, 1, 2, 3] rfl) hF
        · have hF := ab_neg c339 hF
          refine lv_iconst (v := 0) X.1 X.2.1 dL_law_1170 (by decide) ?_
          exact absurd hF (by simp)
      have hF := ab_neg c324 hF
      by_cases c340 : (x2 &&& 31) = 18
      · have hF := ab_pos c340 hF
        refine ab_tab (tgt := 1172) X dL_law_33 c340 (by decide) (by decide) rfl (by decide) ?_
        refine ab_aload_n X dL_law_1172 rfl (lv_at hl 1 rfl) ?_
        refine lv_aload_n X.1 X.2.1 dL_law_1173 rfl (lv_at hl 0 rfl) ?_
        refine lv_iload_n X.1 X.2.1 dL_law_1174 rfl (lv_at hl 3 rfl) ?_
        refine lv_iconst (v := 1) X.1 X.2.1 dL_law_1175 (by decide) ?_
        refine lv_iadd X.1 X.2.1 dL_law_1176 ?_
        refine ab_scr X S hX hbl hbA hF dL_law_1177 (fun x341 hF => ?_)
        refine lv_aload_n X.1 X.2.1 dL_law_1178 rfl (lv_at hl 0 rfl) ?_
        refine lv_iload_n X.1 X.2.1 dL_law_1179 rfl (lv_at hl 3 rfl) ?_
        refine lv_iconst (v := 2) X.1 X.2.1 dL_law_1180 (by decide) ?_
        refine lv_iadd X.1 X.2.1 dL_law_1181 ?_
        refine ab_scr X S hX hbl hbA hF dL_law_1182 (fun x342 hF => ?_)
        refine lv_aload_n X.1 X.2.1 dL_law_1183 rfl (lv_at hl 0 rfl) ?_
        refine lv_iload_n X.1 X.2.1 dL_law_1184 rfl (lv_at hl 3 rfl) ?_
        refine lv_iconst (v := 3) X.1 X.2.1 dL_law_1185 (by decide) ?_
        refine lv_iadd X.1 X.2.1 dL_law_1186 ?_
        refine ab_scr X S hX hbl hbA hF dL_law_1187 (fun x343 hF => ?_)
        obtain ⟨a347, e348, hF⟩ := bind_out hF
        obtain ⟨x344, h345, e346, hF⟩ := bnd_out hF
        refine ab_callVl X S e348 (c_X8_stage l D cA sz e346) rfl (by decide) mi_X8_stage lm_L_96 li_yX8_stage ls_yX8_stage (As := [.int x341, .int x342, .int x343]) (rest := []) rfl ⟨by decide, by decide⟩ ⟨(by dsimp only [room_1]; omega), (by dsimp only [room_1]; omega)⟩ hl.1 rfl (by simp [ab_cat, ab_cI, ab_cJ, ab_cD, ab_cF, ab_cA]) dL_law_1188 (fun H1 locs1 S => ?_)
        refine ab_aload_n X dL_law_1191 rfl (lv_at hl 2 rfl) ?_
        refine lv_aload_n X.1 X.2.1 dL_law_1192 rfl (lv_at hl 0 rfl) ?_
        refine lv_iload_n X.1 X.2.1 dL_law_1193 rfl (lv_at hl 3 rfl) ?_
        refine lv_iconst (v := 1) X.1 X.2.1 dL_law_1194 (by decide) ?_
        refine lv_iadd X.1 X.2.1 dL_law_1195 ?_
        refine ab_scr X S hX hbl hbA hF dL_law_1196 (fun x349 hF => ?_)
        refine lv_aload_n X.1 X.2.1 dL_law_1197 rfl (lv_at hl 0 rfl) ?_
        refine lv_iload_n X.1 X.2.1 dL_law_1198 rfl (lv_at hl 3 rfl) ?_
        refine lv_iconst (v := 2) X.1 X.2.1 dL_law_1199 (by decide) ?_
        refine lv_iadd X.1 X.2.1 dL_law_1200 ?_
        refine ab_scr X S hX hbl hbA hF dL_law_1201 (fun x350 hF => ?_)
        refine lv_aload_n X.1 X.2.1 dL_law_1202 rfl (lv_at hl 0 rfl) ?_
        refine lv_iload_n X.1 X.2.1 dL_law_1203 rfl (lv_at hl 3 rfl) ?_
        refine lv_iconst (v := 3) X.1 X.2.1 dL_law_1204 (by decide) ?_
        refine lv_iadd X.1 X.2.1 dL_law_1205 ?_
        refine ab_scr X S hX hbl hbA hF dL_law_1206 (fun x351 hF => ?_)
        obtain ⟨a355, e356, hF⟩ := bind_out hF
        obtain ⟨x352, h353, e354, hF⟩ := bnd_out hF
        refine ab_callVl X S e356 (c_X9_stage l D cA sz e354) rfl (by decide) mi_X9_stage lm_L_100 li_yX9_stage ls_yX9_stage (As := [.int x349, .int x350, .int x351]) (rest := [.long x344]) rfl ⟨by decide, by decide⟩ ⟨(by dsimp only [room_1]; omega), (by dsimp only [room_1]; omega)⟩ hl.1 rfl (by simp [ab_cat, ab_cI, ab_cJ, ab_cD, ab_cF, ab_cA]) dL_law_1207 (fun H1 locs1 S => ?_)
        refine W.lcmp X.1 X.2.1 dL_law_1210 ?_
        refine lv_if_eq (tgt := 1511) X.1 X.2.1 dL_law_1211 (by decide) (fun c357 => ?_) (fun c357 => ?_)
        · have hF := ab_pos c357 hF
          exact w_L_law_1511 X hr hX hbl hbA hsz ih (by omega) (by omega) S (lv_sub hl [0, 1, 2, 3] rfl) hF
        · have hF := ab_neg c357 hF
          refine lv_iconst (v := 0) X.1 X.2.1 dL_law_1214 (by decide) ?_
          exact absurd hF (by simp)
      have hF := ab_neg c340 hF
      by_cases c358 : (x2 &&& 31) = 19
      · have hF := ab_pos c358 hF
        refine ab_tab (tgt := 1216) X dL_law_33 c358 (by decide) (by decide) rfl (by decide) ?_
        refine ab_aload_n X dL_law_1216 rfl (lv_at hl 1 rfl) ?_
        refine lv_aload_n X.1 X.2.1 dL_law_1217 rfl (lv_at hl 0 rfl) ?_
        refine lv_iload_n X.1 X.2.1 dL_law_1218 rfl (lv_at hl 3 rfl) ?_
        refine lv_iconst (v := 1) X.1 X.2.1 dL_law_1219 (by decide) ?_
        refine lv_iadd X.1 X.2.1 dL_law_1220 ?_
        refine ab_scr X S hX hbl hbA hF dL_law_1221 (fun x359 hF => ?_)
        refine lv_aload_n X.1 X.2.1 dL_law_1222 rfl (lv_at hl 0 rfl) ?_
        refine lv_iload_n X.1 X.2.1 dL_law_1223 rfl (lv_at hl 3 rfl) ?_
        refine lv_iconst (v := 2) X.1 X.2.1 dL_law_1224 (by decide) ?_
        refine lv_iadd X.1 X.2.1 dL_law_1225 ?_
        refine ab_scr X S hX hbl hbA hF dL_law_1226 (fun x360 hF => ?_)
        obtain ⟨a364, e365, hF⟩ := bind_out hF
        obtain ⟨x361, h362, e363, hF⟩ := bnd_out hF
        refine ab_callVl X S e365 (c_X8_value l D cA sz e363) rfl (by decide) mi_X8_value lm_L_101 li_yX8_value ls_yX8_value (As := [.int x359, .int x360]) (rest := []) rfl ⟨by decide, by decide⟩ ⟨(by dsimp only [room_1]; omega), (by dsimp only [room_1]; omega)⟩ hl.1 rfl (by simp [ab_cat, ab_cI, ab_cJ, ab_cD, ab_cF, ab_cA]) dL_law_1227 (fun H1 locs1 S => ?_)
        refine ab_aload_n X dL_law_1230 rfl (lv_at hl 2 rfl) ?_
        refine lv_aload_n X.1 X.2.1 dL_law_1231 rfl (lv_at hl 0 rfl) ?_
        refine lv_iload_n X.1 X.2.1 dL_law_1232 rfl (lv_at hl 3 rfl) ?_
        refine lv_iconst (v := 1) X.1 X.2.1 dL_law_1233 (by decide) ?_
        refine lv_iadd X.1 X.2.1 dL_law_1234 ?_
        refine ab_scr X S hX hbl hbA hF dL_law_1235 (fun x366 hF => ?_)
        refine lv_aload_n X.1 X.2.1 dL_law_1236 rfl (lv_at hl 0 rfl) ?_
        refine lv_iload_n X.1 X.2.1 dL_law_1237 rfl (lv_at hl 3 rfl) ?_
        refine lv_iconst (v := 2) X.1 X.2.1 dL_law_1238 (by decide) ?_
        refine lv_iadd X.1 X.2.1 dL_law_1239 ?_
        refine ab_scr X S hX hbl hbA hF dL_law_1240 (fun x367 hF => ?_)
        obtain ⟨a371, e372, hF⟩ := bind_out hF
        obtain ⟨x368, h369, e370, hF⟩ := bnd_out hF
        refine ab_callVl X S e372 (c_X9_value l D cA sz e370) rfl (by decide) mi_X9_value lm_L_104 li_yX9_value ls_yX9_value (As := [.int x366, .int x367]) (rest := [.long x361]) rfl ⟨by decide, by decide⟩ ⟨(by dsimp only [room_1]; omega), (by dsimp only [room_1]; omega)⟩ hl.1 rfl (by simp [ab_cat, ab_cI, ab_cJ, ab_cD, ab_cF, ab_cA]) dL_law_1241 (fun H1 locs1 S => ?_)
        refine W.lcmp X.1 X.2.1 dL_law_1244 ?_
        refine lv_if_eq (tgt := 1511) X.1 X.2.1 dL_law_1245 (by decide) (fun c373 => ?_) (fun c373 => ?_)
        · have hF := ab_pos c373 hF
          exact w_L_law_1511 X hr hX hbl hbA hsz ih (by omega) (by omega) S (lv_sub hl [0, 1, 2, 3] rfl) hF
        · have hF := ab_neg c373 hF
          refine lv_iconst (v := 0) X.1 X.2.1 dL_law_1248 (by decide) ?_
          exact absurd hF (by simp)
      have hF := ab_neg c358 hF
      by_cases c374 : (x2 &&& 31) = 20
      · have hF := ab_pos c374 hF
        refine ab_tab (tgt := 1250) X dL_law_33 c374 (by decide) (by decide) rfl (by decide) ?_
        refine ab_aload_n X dL_law_1250 rfl (lv_at hl 1 rfl) ?_
        refine lv_aload_n X.1 X.2.1 dL_law_1251 rfl (lv_at hl 0 rfl) ?_
        refine lv_iload_n X.1 X.2.1 dL_law_1252 rfl (lv_at hl 3 rfl) ?_
        refine lv_iconst (v := 1) X.1 X.2.1 dL_law_1253 (by decide) ?_
        refine lv_iadd X.1 X.2.1 dL_law_1254 ?_
        refine ab_scr X S hX hbl hbA hF dL_law_1255 (fun x375 hF => ?_)
        refine lv_aload_n X.1 X.2.1 dL_law_1256 rfl (lv_at hl 0 rfl) ?_
        refine lv_iload_n X.1 X.2.1 dL_law_1257 rfl (lv_at hl 3 rfl) ?_
        refine lv_iconst (v := 2) X.1 X.2.1 dL_law_1258 (by decide) ?_
        refine lv_iadd X.1 X.2.1 dL_law_1259 ?_
        refine ab_scr X S hX hbl hbA hF dL_law_1260 (fun x376 hF => ?_)
        refine lv_aload_n X.1 X.2.1 dL_law_1261 rfl (lv_at hl 0 rfl) ?_
        refine lv_iload_n X.1 X.2.1 dL_law_1262 rfl (lv_at hl 3 rfl) ?_
        refine lv_iconst (v := 3) X.1 X.2.1 dL_law_1263 (by decide) ?_
        refine lv_iadd X.1 X.2.1 dL_law_1264 ?_
        refine ab_scr X S hX hbl hbA hF dL_law_1265 (fun x377 hF => ?_)
        refine lv_i2l (v := x377.toInt64) X.1 X.2.1 dL_law_1266 rfl ?_
        refine lv_bipush (v := 32) X.1 X.2.1 dL_law_1267 (by decide) ?_
        refine lv_lshl (v := x377.toInt64 <<< ((32 : Int32).toInt64 &&& 63)) X.1 X.2.1 dL_law_1269 rfl ?_
        refine lv_aload_n X.1 X.2.1 dL_law_1270 rfl (lv_at hl 0 rfl) ?_
        refine lv_iload_n X.1 X.2.1 dL_law_1271 rfl (lv_at hl 3 rfl) ?_
        refine lv_iconst (v := 4) X.1 X.2.1 dL_law_1272 (by decide) ?_
        refine lv_iadd X.1 X.2.1 dL_law_1273 ?_
        refine ab_scr X S hX hbl hbA hF dL_law_1274 (fun x378 hF => ?_)
        refine lv_i2l (v := x378.toInt64) X.1 X.2.1 dL_law_1275 rfl ?_
        refine lv_ldc2 (v := (4294967295)) X.1 X.2.1 X.2.2.2.1 (X.2.2.2.2.1 _ ll_L_18) dL_law_1276 ?_
        refine lv_land X.1 X.2.1 dL_law_1279 ?_
        refine lv_lor X.1 X.2.1 dL_law_1280 ?_
        refine lv_aload_n X.1 X.2.1 dL_law_1281 rfl (lv_at hl 0 rfl) ?_
        refine lv_iload_n X.1 X.2.1 dL_law_1282 rfl (lv_at hl 3 rfl) ?_
        refine lv_iconst (v := 5) X.1 X.2.1 dL_law_1283 (by decide) ?_
        refine lv_iadd X.1 X.2.1 dL_law_1284 ?_
        refine ab_scr X S hX hbl hbA hF dL_law_1285 (fun x379 hF => ?_)
        obtain ⟨a383, e384, hF⟩ := bind_out hF
        obtain ⟨x380, h381, e382, hF⟩ := bnd_out hF
        refine ab_callVl X S e384 (c_X8_between l D cA sz e382) rfl (by decide) mi_X8_between lm_L_105 li_yX8_between ls_yX8_between (As := [.int x375, .int x376, .long ((x377.toInt64 <<< ((32 : Int32).toInt64 &&& 63)) ||| (x378.toInt64 &&& (4294967295))), .int x379]) (rest := []) rfl ⟨by decide, by decide⟩ ⟨(by dsimp only [room_1]; omega), (by dsimp only [room_1]; omega)⟩ hl.1 rfl (by simp [ab_cat, ab_cI, ab_cJ, ab_cD, ab_cF, ab_cA]) dL_law_1286 (fun H1 locs1 S => ?_)
        refine ab_aload_n X dL_law_1289 rfl (lv_at hl 2 rfl) ?_
        refine lv_aload_n X.1 X.2.1 dL_law_1290 rfl (lv_at hl 0 rfl) ?_
        refine lv_iload_n X.1 X.2.1 dL_law_1291 rfl (lv_at hl 3 rfl) ?_
        refine lv_iconst (v := 1) X.1 X.2.1 dL_law_1292 (by decide) ?_
        refine lv_iadd X.1 X.2.1 dL_law_1293 ?_
        refine ab_scr X S hX hbl hbA hF dL_law_1294 (fun x385 hF => ?_)
        refine lv_aload_n X.1 X.2.1 dL_law_1295 rfl (lv_at hl 0 rfl) ?_
        refine lv_iload_n X.1 X.2.1 dL_law_1296 rfl (lv_at hl 3 rfl) ?_
        refine lv_iconst (v := 2) X.1 X.2.1 dL_law_1297 (by decide) ?_
        refine lv_iadd X.1 X.2.1 dL_law_1298 ?_
        refine ab_scr X S hX hbl hbA hF dL_law_1299 (fun x386 hF => ?_)
        refine lv_aload_n X.1 X.2.1 dL_law_1300 rfl (lv_at hl 0 rfl) ?_
        refine lv_iload_n X.1 X.2.1 dL_law_1301 rfl (lv_at hl 3 rfl) ?_
        refine lv_iconst (v := 3) X.1 X.2.1 dL_law_1302 (by decide) ?_
        refine lv_iadd X.1 X.2.1 dL_law_1303 ?_
        refine ab_scr X S hX hbl hbA hF dL_law_1304 (fun x387 hF => ?_)
        refine lv_i2l (v := x387.toInt64) X.1 X.2.1 dL_law_1305 rfl ?_
        refine lv_bipush (v := 32) X.1 X.2.1 dL_law_1306 (by decide) ?_
        refine lv_lshl (v := x387.toInt64 <<< ((32 : Int32).toInt64 &&& 63)) X.1 X.2.1 dL_law_1308 rfl ?_
        refine lv_aload_n X.1 X.2.1 dL_law_1309 rfl (lv_at hl 0 rfl) ?_
        refine lv_iload_n X.1 X.2.1 dL_law_1310 rfl (lv_at hl 3 rfl) ?_
        refine lv_iconst (v := 4) X.1 X.2.1 dL_law_1311 (by decide) ?_
        refine lv_iadd X.1 X.2.1 dL_law_1312 ?_
        refine ab_scr X S hX hbl hbA hF dL_law_1313 (fun x388 hF => ?_)
        refine lv_i2l (v := x388.toInt64) X.1 X.2.1 dL_law_1314 rfl ?_
        refine lv_ldc2 (v := (4294967295)) X.1 X.2.1 X.2.2.2.1 (X.2.2.2.2.1 _ ll_L_18) dL_law_1315 ?_
        refine lv_land X.1 X.2.1 dL_law_1318 ?_
        refine lv_lor X.1 X.2.1 dL_law_1319 ?_
        refine lv_aload_n X.1 X.2.1 dL_law_1320 rfl (lv_at hl 0 rfl) ?_
        refine lv_iload_n X.1 X.2.1 dL_law_1321 rfl (lv_at hl 3 rfl) ?_
        refine lv_iconst (v := 5) X.1 X.2.1 dL_law_1322 (by decide) ?_
        refine lv_iadd X.1 X.2.1 dL_law_1323 ?_
        refine ab_scr X S hX hbl hbA hF dL_law_1324 (fun x389 hF => ?_)
        obtain ⟨a393, e394, hF⟩ := bind_out hF
        obtain ⟨x390, h391, e392, hF⟩ := bnd_out hF
        refine ab_callVl X S e394 (c_X9_between l D cA sz e392) rfl (by decide) mi_X9_between lm_L_109 li_yX9_between ls_yX9_between (As := [.int x385, .int x386, .long ((x387.toInt64 <<< ((32 : Int32).toInt64 &&& 63)) ||| (x388.toInt64 &&& (4294967295))), .int x389]) (rest := [.long x380]) rfl ⟨by decide, by decide⟩ ⟨(by dsimp only [room_1]; omega), (by dsimp only [room_1]; omega)⟩ hl.1 rfl (by simp [ab_cat, ab_cI, ab_cJ, ab_cD, ab_cF, ab_cA]) dL_law_1325 (fun H1 locs1 S => ?_)
        refine W.lcmp X.1 X.2.1 dL_law_1328 ?_
        refine lv_if_eq (tgt := 1511) X.1 X.2.1 dL_law_1329 (by decide) (fun c395 => ?_) (fun c395 => ?_)
        · have hF := ab_pos c395 hF
          exact w_L_law_1511 X hr hX hbl hbA hsz ih (by omega) (by omega) S (lv_sub hl [0, 1, 2, 3] rfl) hF
        · have hF := ab_neg c395 hF
          refine lv_iconst (v := 0) X.1 X.2.1 dL_law_1332 (by decide) ?_
          exact absurd hF (by simp)
      have hF := ab_neg c374 hF
      by_cases c396 : (x2 &&& 31) = 21
      · have hF := ab_pos c396 hF
        refine ab_tab (tgt := 1334) X dL_law_33 c396 (by decide) (by decide) rfl (by decide) ?_
        refine ab_aload_n X dL_law_1334 rfl (lv_at hl 1 rfl) ?_
        refine lv_aload_n X.1 X.2.1 dL_law_1335 rfl (lv_at hl 0 rfl) ?_
        refine lv_iload_n X.1 X.2.1 dL_law_1336 rfl (lv_at hl 3 rfl) ?_
        refine lv_iconst (v := 1) X.1 X.2.1 dL_law_1337 (by decide) ?_
        refine lv_iadd X.1 X.2.1 dL_law_1338 ?_
        refine ab_scr X S hX hbl hbA hF dL_law_1339 (fun x397 hF => ?_)
        refine lv_aload_n X.1 X.2.1 dL_law_1340 rfl (lv_at hl 0 rfl) ?_
        refine lv_iload_n X.1 X.2.1 dL_law_1341 rfl (lv_at hl 3 rfl) ?_
        refine lv_iconst (v := 2) X.1 X.2.1 dL_law_1342 (by decide) ?_
        refine lv_iadd X.1 X.2.1 dL_law_1343 ?_
        refine ab_scr X S hX hbl hbA hF dL_law_1344 (fun x398 hF => ?_)
        refine lv_aload_n X.1 X.2.1 dL_law_1345 rfl (lv_at hl 0 rfl) ?_
        refine lv_iload_n X.1 X.2.1 dL_law_1346 rfl (lv_at hl 3 rfl) ?_
        refine lv_iconst (v := 3) X.1 X.2.1 dL_law_1347 (by decide) ?_
        refine lv_iadd X.1 X.2.1 dL_law_1348 ?_
        refine ab_scr X S hX hbl hbA hF dL_law_1349 (fun x399 hF => ?_)
        obtain ⟨a403, e404, hF⟩ := bind_out hF
        obtain ⟨x400, h401, e402, hF⟩ := bnd_out hF
        refine ab_callVl X S e404 (c_X8_fired l D cA sz e402) rfl (by decide) mi_X8_fired lm_L_110 li_yX8_fired ls_yX8_fired (As := [.int x397, .int x398, .int x399]) (rest := []) rfl ⟨by decide, by decide⟩ ⟨(by dsimp only [room_1]; omega), (by dsimp only [room_1]; omega)⟩ hl.1 rfl (by simp [ab_cat, ab_cI, ab_cJ, ab_cD, ab_cF, ab_cA]) dL_law_1350 (fun H1 locs1 S => ?_)
        refine ab_aload_n X dL_law_1353 rfl (lv_at hl 2 rfl) ?_
        refine lv_aload_n X.1 X.2.1 dL_law_1354 rfl (lv_at hl 0 rfl) ?_
        refine lv_iload_n X.1 X.2.1 dL_law_1355 rfl (lv_at hl 3 rfl) ?_
        refine lv_iconst (v := 1) X.1 X.2.1 dL_law_1356 (by decide) ?_
        refine lv_iadd X.1 X.2.1 dL_law_1357 ?_
        refine ab_scr X S hX hbl hbA hF dL_law_1358 (fun x405 hF => ?_)
        refine lv_aload_n X.1 X.2.1 dL_law_1359 rfl (lv_at hl 0 rfl) ?_
        refine lv_iload_n X.1 X.2.1 dL_law_1360 rfl (lv_at hl 3 rfl) ?_
        refine lv_iconst (v := 2) X.1 X.2.1 dL_law_1361 (by decide) ?_
        refine lv_iadd X.1 X.2.1 dL_law_1362 ?_
        refine ab_scr X S hX hbl hbA hF dL_law_1363 (fun x406 hF => ?_)
        refine lv_aload_n X.1 X.2.1 dL_law_1364 rfl (lv_at hl 0 rfl) ?_
        refine lv_iload_n X.1 X.2.1 dL_law_1365 rfl (lv_at hl 3 rfl) ?_
        refine lv_iconst (v := 3) X.1 X.2.1 dL_law_1366 (by decide) ?_
        refine lv_iadd X.1 X.2.1 dL_law_1367 ?_
        refine ab_scr X S hX hbl hbA hF dL_law_1368 (fun x407 hF => ?_)
        obtain ⟨a411, e412, hF⟩ := bind_out hF
        obtain ⟨x408, h409, e410, hF⟩ := bnd_out hF
        refine ab_callVl X S e412 (c_X9_fired l D cA sz e410) rfl (by decide) mi_X9_fired lm_L_113 li_yX9_fired ls_yX9_fired (As := [.int x405, .int x406, .int x407]) (rest := [.long x400]) rfl ⟨by decide, by decide⟩ ⟨(by dsimp only [room_1]; omega), (by dsimp only [room_1]; omega)⟩ hl.1 rfl (by simp [ab_cat, ab_cI, ab_cJ, ab_cD, ab_cF, ab_cA]) dL_law_1369 (fun H1 locs1 S => ?_)
        refine W.lcmp X.1 X.2.1 dL_law_1372 ?_
        refine lv_if_eq (tgt := 1511) X.1 X.2.1 dL_law_1373 (by decide) (fun c413 => ?_) (fun c413 => ?_)
        · have hF := ab_pos c413 hF
          exact w_L_law_1511 X hr hX hbl hbA hsz ih (by omega) (by omega) S (lv_sub hl [0, 1, 2, 3] rfl) hF
        · have hF := ab_neg c413 hF
          refine lv_iconst (v := 0) X.1 X.2.1 dL_law_1376 (by decide) ?_
          exact absurd hF (by simp)
      have hF := ab_neg c396 hF
      by_cases c414 : (x2 &&& 31) = 22
      · have hF := ab_pos c414 hF
        refine ab_tab (tgt := 1378) X dL_law_33 c414 (by decide) (by decide) rfl (by decide) ?_
        refine ab_aload_n X dL_law_1378 rfl (lv_at hl 1 rfl) ?_
        refine lv_aload_n X.1 X.2.1 dL_law_1379 rfl (lv_at hl 0 rfl) ?_
        refine lv_iload_n X.1 X.2.1 dL_law_1380 rfl (lv_at hl 3 rfl) ?_
        refine lv_iconst (v := 1) X.1 X.2.1 dL_law_1381 (by decide) ?_
        refine lv_iadd X.1 X.2.1 dL_law_1382 ?_
        refine ab_scr X S hX hbl hbA hF dL_law_1383 (fun x415 hF => ?_)
        refine lv_aload_n X.1 X.2.1 dL_law_1384 rfl (lv_at hl 0 rfl) ?_
        refine lv_iload_n X.1 X.2.1 dL_law_1385 rfl (lv_at hl 3 rfl) ?_
        refine lv_iconst (v := 2) X.1 X.2.1 dL_law_1386 (by decide) ?_
        refine lv_iadd X.1 X.2.1 dL_law_1387 ?_
        refine ab_scr X S hX hbl hbA hF dL_law_1388 (fun x416 hF => ?_)
        obtain ⟨a420, e421, hF⟩ := bind_out hF
        obtain ⟨x417, h418, e419, hF⟩ := bnd_out hF
        refine ab_callVl X S e421 (c_X8_halves l D cA sz e419) rfl (by decide) mi_X8_halves lm_L_114 li_yX8_halves ls_yX8_halves (As := [.int x415, .int x416]) (rest := []) rfl ⟨by decide, by decide⟩ ⟨(by dsimp only [room_1]; omega), (by dsimp only [room_1]; omega)⟩ hl.1 rfl (by simp [ab_cat, ab_cI, ab_cJ, ab_cD, ab_cF, ab_cA]) dL_law_1389 (fun H1 locs1 S => ?_)
        refine ab_aload_n X dL_law_1392 rfl (lv_at hl 2 rfl) ?_
        refine lv_aload_n X.1 X.2.1 dL_law_1393 rfl (lv_at hl 0 rfl) ?_
        refine lv_iload_n X.1 X.2.1 dL_law_1394 rfl (lv_at hl 3 rfl) ?_
        refine lv_iconst (v := 1) X.1 X.2.1 dL_law_1395 (by decide) ?_
        refine lv_iadd X.1 X.2.1 dL_law_1396 ?_
        refine ab_scr X S hX hbl hbA hF dL_law_1397 (fun x422 hF => ?_)
        refine lv_aload_n X.1 X.2.1 dL_law_1398 rfl (lv_at hl 0 rfl) ?_
        refine lv_iload_n X.1 X.2.1 dL_law_1399 rfl (lv_at hl 3 rfl) ?_
        refine lv_iconst (v := 2) X.1 X.2.1 dL_law_1400 (by decide) ?_
        refine lv_iadd X.1 X.2.1 dL_law_1401 ?_
        refine ab_scr X S hX hbl hbA hF dL_law_1402 (fun x423 hF => ?_)
        obtain ⟨a427, e428, hF⟩ := bind_out hF
        obtain ⟨x424, h425, e426, hF⟩ := bnd_out hF
        refine ab_callVl X S e428 (c_X9_halves l D cA sz e426) rfl (by decide) mi_X9_halves lm_L_117 li_yX9_halves ls_yX9_halves (As := [.int x422, .int x423]) (rest := [.long x417]) rfl ⟨by decide, by decide⟩ ⟨(by dsimp only [room_1]; omega), (by dsimp only [room_1]; omega)⟩ hl.1 rfl (by simp [ab_cat, ab_cI, ab_cJ, ab_cD, ab_cF, ab_cA]) dL_law_1403 (fun H1 locs1 S => ?_)
        refine W.lcmp X.1 X.2.1 dL_law_1406 ?_
        refine lv_if_eq (tgt := 1511) X.1 X.2.1 dL_law_1407 (by decide) (fun c429 => ?_) (fun c429 => ?_)
        · have hF := ab_pos c429 hF
          exact w_L_law_1511 X hr hX hbl hbA hsz ih (by omega) (by omega) S (lv_sub hl [0, 1, 2, 3] rfl) hF
        · have hF := ab_neg c429 hF
          refine lv_iconst (v := 0) X.1 X.2.1 dL_law_1410 (by decide) ?_
          exact absurd hF (by simp)
      have hF := ab_neg c414 hF
      by_cases c430 : (x2 &&& 31) = 23
      · have hF := ab_pos c430 hF
        refine ab_tab (tgt := 1412) X dL_law_33 c430 (by decide) (by decide) rfl (by decide) ?_
        refine ab_aload_n X dL_law_1412 rfl (lv_at hl 1 rfl) ?_
        refine lv_aload_n X.1 X.2.1 dL_law_1413 rfl (lv_at hl 0 rfl) ?_
        refine lv_iload_n X.1 X.2.1 dL_law_1414 rfl (lv_at hl 3 rfl) ?_
        refine lv_iconst (v := 1) X.1 X.2.1 dL_law_1415 (by decide) ?_
        refine lv_iadd X.1 X.2.1 dL_law_1416 ?_
        refine ab_scr X S hX hbl hbA hF dL_law_1417 (fun x431 hF => ?_)
        refine lv_aload_n X.1 X.2.1 dL_law_1418 rfl (lv_at hl 0 rfl) ?_
        refine lv_iload_n X.1 X.2.1 dL_law_1419 rfl (lv_at hl 3 rfl) ?_
        refine lv_iconst (v := 2) X.1 X.2.1 dL_law_1420 (by decide) ?_
        refine lv_iadd X.1 X.2.1 dL_law_1421 ?_
        refine ab_scr X S hX hbl hbA hF dL_law_1422 (fun x432 hF => ?_)
        obtain ⟨a436, e437, hF⟩ := bind_out hF
        obtain ⟨x433, h434, e435, hF⟩ := bnd_out hF
        refine ab_callVxi X S e437 (c_X8_keep l D cA sz e435) rfl (by decide) mi_X8_keep lm_L_118 li_yX8_keep ls_yX8_keep (As := [.int x431, .int x432]) (rest := []) rfl ⟨by decide, by decide⟩ ⟨(by dsimp only [room_1]; omega), (by dsimp only [room_1]; omega)⟩ hl.1 rfl (by simp [ab_cat, ab_cI, ab_cJ, ab_cD, ab_cF, ab_cA]) dL_law_1423 (fun H1 locs1 S => ?_)
        refine ab_aload_n X dL_law_1426 rfl (lv_at hl 2 rfl) ?_
        refine lv_aload_n X.1 X.2.1 dL_law_1427 rfl (lv_at hl 0 rfl) ?_
        refine lv_iload_n X.1 X.2.1 dL_law_1428 rfl (lv_at hl 3 rfl) ?_
        refine lv_iconst (v := 1) X.1 X.2.1 dL_law_1429 (by decide) ?_
        refine lv_iadd X.1 X.2.1 dL_law_1430 ?_
        refine ab_scr X S hX hbl hbA hF dL_law_1431 (fun x438 hF => ?_)
        refine lv_aload_n X.1 X.2.1 dL_law_1432 rfl (lv_at hl 0 rfl) ?_
        refine lv_iload_n X.1 X.2.1 dL_law_1433 rfl (lv_at hl 3 rfl) ?_
        refine lv_iconst (v := 2) X.1 X.2.1 dL_law_1434 (by decide) ?_
        refine lv_iadd X.1 X.2.1 dL_law_1435 ?_
        refine ab_scr X S hX hbl hbA hF dL_law_1436 (fun x439 hF => ?_)
        obtain ⟨a443, e444, hF⟩ := bind_out hF
        obtain ⟨x440, h441, e442, hF⟩ := bnd_out hF
        refine ab_callVi X S e444 (c_X9_keep l D cA sz e442) rfl (by decide) mi_X9_keep lm_L_121 li_yX9_keep ls_yX9_keep (As := [.int x438, .int x439]) (rest := [.int x433]) rfl ⟨by decide, by decide⟩ ⟨(by dsimp only [room_1]; omega), (by dsimp only [room_1]; omega)⟩ hl.1 rfl (by simp [ab_cat, ab_cI, ab_cJ, ab_cD, ab_cF, ab_cA]) dL_law_1437 (fun H1 locs1 S => ?_)
        refine lv_icmp_eq (tgt := 1511) X.1 X.2.1 dL_law_1440 (by decide) (fun c445 => ?_) (fun c445 => ?_)
        · have hF := ab_pos c445 hF
          exact w_L_law_1511 X hr hX hbl hbA hsz ih (by omega) (by omega) S (lv_sub hl [0, 1, 2, 3] rfl) hF
        · have hF := ab_neg c445 hF
          refine lv_iconst (v := 0) X.1 X.2.1 dL_law_1443 (by decide) ?_
          exact absurd hF (by simp)
      have hF := ab_neg c430 hF
      by_cases c446 : (x2 &&& 31) = 24
      · have hF := ab_pos c446 hF
        refine ab_tab (tgt := 1445) X dL_law_33 c446 (by decide) (by decide) rfl (by decide) ?_
        refine ab_aload_n X dL_law_1445 rfl (lv_at hl 1 rfl) ?_
        refine lv_aload_n X.1 X.2.1 dL_law_1446 rfl (lv_at hl 0 rfl) ?_
        refine lv_iload_n X.1 X.2.1 dL_law_1447 rfl (lv_at hl 3 rfl) ?_
        refine lv_iconst (v := 1) X.1 X.2.1 dL_law_1448 (by decide) ?_
        refine lv_iadd X.1 X.2.1 dL_law_1449 ?_
        refine ab_scr X S hX hbl hbA hF dL_law_1450 (fun x447 hF => ?_)
        refine lv_aload_n X.1 X.2.1 dL_law_1451 rfl (lv_at hl 0 rfl) ?_
        refine lv_iload_n X.1 X.2.1 dL_law_1452 rfl (lv_at hl 3 rfl) ?_
        refine lv_iconst (v := 2) X.1 X.2.1 dL_law_1453 (by decide) ?_
        refine lv_iadd X.1 X.2.1 dL_law_1454 ?_
        refine ab_scr X S hX hbl hbA hF dL_law_1455 (fun x448 hF => ?_)
        obtain ⟨a452, e453, hF⟩ := bind_out hF
        obtain ⟨x449, h450, e451, hF⟩ := bnd_out hF
        refine ab_callVi X S e453 (c_X8_back l D cA sz e451) rfl (by decide) mi_X8_back lm_L_122 li_yX8_back ls_yX8_back (As := [.int x447, .int x448]) (rest := []) rfl ⟨by decide, by decide⟩ ⟨(by dsimp only [room_1]; omega), (by dsimp only [room_1]; omega)⟩ hl.1 rfl (by simp [ab_cat, ab_cI, ab_cJ, ab_cD, ab_cF, ab_cA]) dL_law_1456 (fun H1 locs1 S => ?_)
        refine ab_aload_n X dL_law_1459 rfl (lv_at hl 2 rfl) ?_
        refine lv_aload_n X.1 X.2.1 dL_law_1460 rfl (lv_at hl 0 rfl) ?_
        refine lv_iload_n X.1 X.2.1 dL_law_1461 rfl (lv_at hl 3 rfl) ?_
        refine lv_iconst (v := 1) X.1 X.2.1 dL_law_1462 (by decide) ?_
        refine lv_iadd X.1 X.2.1 dL_law_1463 ?_
        refine ab_scr X S hX hbl hbA hF dL_law_1464 (fun x454 hF => ?_)
        refine lv_aload_n X.1 X.2.1 dL_law_1465 rfl (lv_at hl 0 rfl) ?_
        refine lv_iload_n X.1 X.2.1 dL_law_1466 rfl (lv_at hl 3 rfl) ?_
        refine lv_iconst (v := 2) X.1 X.2.1 dL_law_1467 (by decide) ?_
        refine lv_iadd X.1 X.2.1 dL_law_1468 ?_
        refine ab_scr X S hX hbl hbA hF dL_law_1469 (fun x455 hF => ?_)
        obtain ⟨a459, e460, hF⟩ := bind_out hF
        obtain ⟨x456, h457, e458, hF⟩ := bnd_out hF
        refine ab_callVi X S e460 (c_X9_back l D cA sz e458) rfl (by decide) mi_X9_back lm_L_125 li_yX9_back ls_yX9_back (As := [.int x454, .int x455]) (rest := [.int x449]) rfl ⟨by decide, by decide⟩ ⟨(by dsimp only [room_1]; omega), (by dsimp only [room_1]; omega)⟩ hl.1 rfl (by simp [ab_cat, ab_cI, ab_cJ, ab_cD, ab_cF, ab_cA]) dL_law_1470 (fun H1 locs1 S => ?_)
        refine lv_icmp_eq (tgt := 1511) X.1 X.2.1 dL_law_1473 (by decide) (fun c461 => ?_) (fun c461 => ?_)
        · have hF := ab_pos c461 hF
          exact w_L_law_1511 X hr hX hbl hbA hsz ih (by omega) (by omega) S (lv_sub hl [0, 1, 2, 3] rfl) hF
        · have hF := ab_neg c461 hF
          refine lv_iconst (v := 0) X.1 X.2.1 dL_law_1476 (by decide) ?_
          exact absurd hF (by simp)
      have hF := ab_neg c446 hF
      by_cases c462 : (x2 &&& 31) = 25
      · have hF := ab_pos c462 hF
        refine ab_tab (tgt := 1478) X dL_law_33 c462 (by decide) (by decide) rfl (by decide) ?_
        refine ab_aload_n X dL_law_1478 rfl (lv_at hl 1 rfl) ?_
        refine lv_aload_n X.1 X.2.1 dL_law_1479 rfl (lv_at hl 0 rfl) ?_
        refine lv_iload_n X.1 X.2.1 dL_law_1480 rfl (lv_at hl 3 rfl) ?_
        refine lv_iconst (v := 1) X.1 X.2.1 dL_law_1481 (by decide) ?_
        refine lv_iadd X.1 X.2.1 dL_law_1482 ?_
        refine ab_scr X S hX hbl hbA hF dL_law_1483 (fun x463 hF => ?_)
        refine lv_aload_n X.1 X.2.1 dL_law_1484 rfl (lv_at hl 0 rfl) ?_
        refine lv_iload_n X.1 X.2.1 dL_law_1485 rfl (lv_at hl 3 rfl) ?_
        refine lv_iconst (v := 2) X.1 X.2.1 dL_law_1486 (by decide) ?_
        refine lv_iadd X.1 X.2.1 dL_law_1487 ?_
        refine ab_scr X S hX hbl hbA hF dL_law_1488 (fun x464 hF => ?_)
        obtain ⟨a468, e469, hF⟩ := bind_out hF
        obtain ⟨x465, h466, e467, hF⟩ := bnd_out hF
        refine ab_callVi X S e469 (c_X8_unlike l D cA sz e467) rfl (by decide) mi_X8_unlike lm_L_126 li_yX8_unlike ls_yX8_unlike (As := [.int x463, .int x464]) (rest := []) rfl ⟨by decide, by decide⟩ ⟨(by dsimp only [room_1]; omega), (by dsimp only [room_1]; omega)⟩ hl.1 rfl (by simp [ab_cat, ab_cI, ab_cJ, ab_cD, ab_cF, ab_cA]) dL_law_1489 (fun H1 locs1 S => ?_)
        refine ab_aload_n X dL_law_1492 rfl (lv_at hl 2 rfl) ?_
        refine lv_aload_n X.1 X.2.1 dL_law_1493 rfl (lv_at hl 0 rfl) ?_
        refine lv_iload_n X.1 X.2.1 dL_law_1494 rfl (lv_at hl 3 rfl) ?_
        refine lv_iconst (v := 1) X.1 X.2.1 dL_law_1495 (by decide) ?_
        refine lv_iadd X.1 X.2.1 dL_law_1496 ?_
        refine ab_scr X S hX hbl hbA hF dL_law_1497 (fun x470 hF => ?_)
        refine lv_aload_n X.1 X.2.1 dL_law_1498 rfl (lv_at hl 0 rfl) ?_
        refine lv_iload_n X.1 X.2.1 dL_law_1499 rfl (lv_at hl 3 rfl) ?_
        refine lv_iconst (v := 2) X.1 X.2.1 dL_law_1500 (by decide) ?_
        refine lv_iadd X.1 X.2.1 dL_law_1501 ?_
        refine ab_scr X S hX hbl hbA hF dL_law_1502 (fun x471 hF => ?_)
        obtain ⟨a475, e476, hF⟩ := bind_out hF
        obtain ⟨x472, h473, e474, hF⟩ := bnd_out hF
        refine ab_callVi X S e476 (c_X9_unlike l D cA sz e474) rfl (by decide) mi_X9_unlike lm_L_129 li_yX9_unlike ls_yX9_unlike (As := [.int x470, .int x471]) (rest := [.int x465]) rfl ⟨by decide, by decide⟩ ⟨(by dsimp only [room_1]; omega), (by dsimp only [room_1]; omega)⟩ hl.1 rfl (by simp [ab_cat, ab_cI, ab_cJ, ab_cD, ab_cF, ab_cA]) dL_law_1503 (fun H1 locs1 S => ?_)
        refine lv_icmp_eq (tgt := 1511) X.1 X.2.1 dL_law_1506 (by decide) (fun c477 => ?_) (fun c477 => ?_)
        · have hF := ab_pos c477 hF
          exact w_L_law_1511 X hr hX hbl hbA hsz ih (by omega) (by omega) S (lv_sub hl [0, 1, 2, 3] rfl) hF
        · have hF := ab_neg c477 hF
          refine lv_iconst (v := 0) X.1 X.2.1 dL_law_1509 (by decide) ?_
          exact absurd hF (by simp)
      have hF := ab_neg c462 hF
      cases hF
def f_L_law (xs : Nat → Int32) (L : Nat) (h : Hp) : Option (Int32 × Hp) :=
  newo h 8 fun q2 h1 =>
  bnd (f_X8_init q2 h1) fun _ h4 =>
  newo h4 9 fun q7 h6 =>
  bnd (f_X9_init q7 h6) fun _ h9 =>
  f_L_law_18 xs L 66 (some q2) (some q7) 0 h9
set_option maxHeartbeats 4000000 in
set_option maxRecDepth 100000 in
theorem w_L_law {p : Program} {l : Launch} {e : Env} {s : State} {m : MethodId} {below : List Frame} {meth : Method} {c : Code} {D : va_G} {cA : Nat → ClassId} {sz b L : Nat} {xs : Nat → Int32} {hh : Hp} (X : ab_X p s m #[Value.ref b] meth c cL_law 4 RL D cA sz) (hr : meth.sig.returnType = ret) (hX : va_X b L xs s s.heap) (hbl : b < s.heap.size) (hbA : ¬ sz ≤ b) (hsz : s.heap.size ≤ sz) {H : Heap} {locs : List Loc} {ls : Array Slot} {h : Hp} (S : ab_H D cA sz h s H locs) (hl : lv_has ls 4 [(0, .ref b)]) (hF : f_L_law xs L h = some (1, hh)) : W p l e room_1 s m #[Value.ref b] below meth c H locs 0 0 (lw_Z below #[Value.ref b] s) (F0 m 0 ls []) := by
  unfold f_L_law at hF
  refine ab_newx X S hF fi_8_0 ci_8 df_8 lk_L_7 ln_RX8_11 lz_RX8 (by decide) (by decide) dL_law_0 (fun q2 h1 H1 hF S => ?_)
  refine lv_dup X.1 X.2.1 dL_law_3 (by simp [ab_cat, ab_cI, ab_cJ, ab_cD, ab_cF, ab_cA]) ?_
  obtain ⟨x3, h4, e5, hF⟩ := bnd_out hF
  refine ab_callIv X S (c_X8_init l D cA sz e5) mi_X8_init rfl lm_L_9 li_yX8_init (As := []) (rest := [va_rf (some q2)]) rfl ⟨by decide, by decide⟩ ⟨(by decide), (by decide)⟩ hl.1 rfl (by simp [ab_cat, ab_cI, ab_cJ, ab_cD, ab_cF, ab_cA]) dL_law_4 (fun H1 locs1 S => ?_)
  refine ab_astore_n (i := 1) (lv' := [(1, va_rf (some q2)), (0, .ref b)]) X dL_law_7 rfl hl (by decide) (by simp [ab_cat, ab_cI, ab_cJ, ab_cD, ab_cF, ab_cA]) (fun ls hl => ?_)
  refine ab_newx X S hF fi_9_0 ci_9 df_9 lk_L_10 ln_RX9_62 lz_RX9 (by decide) (by decide) dL_law_8 (fun q7 h6 H1 hF S => ?_)
  refine lv_dup X.1 X.2.1 dL_law_11 (by simp [ab_cat, ab_cI, ab_cJ, ab_cD, ab_cF, ab_cA]) ?_
  obtain ⟨x8, h9, e10, hF⟩ := bnd_out hF
  refine ab_callIv X S (c_X9_init l D cA sz e10) mi_X9_init rfl lm_L_12 li_yX9_init (As := []) (rest := [va_rf (some q7)]) rfl ⟨by decide, by decide⟩ ⟨(by decide), (by decide)⟩ hl.1 rfl (by simp [ab_cat, ab_cI, ab_cJ, ab_cD, ab_cF, ab_cA]) dL_law_12 (fun H1 locs1 S => ?_)
  refine ab_astore_n (i := 2) (lv' := [(2, va_rf (some q7)), (1, va_rf (some q2)), (0, .ref b)]) X dL_law_15 rfl hl (by decide) (by simp [ab_cat, ab_cI, ab_cJ, ab_cD, ab_cF, ab_cA]) (fun ls hl => ?_)
  refine lv_iconst (v := 0) X.1 X.2.1 dL_law_16 (by decide) ?_
  refine lv_istore_n (i := 3) (lv' := [(3, .int 0), (2, va_rf (some q7)), (1, va_rf (some q2)), (0, .ref b)]) X.1 X.2.1 dL_law_17 rfl hl (by decide) (by simp [ab_cat, ab_cI, ab_cJ, ab_cD, ab_cF, ab_cA]) (fun ls hl => ?_)
  exact w_L_law_18 X hr hX hbl hbA hsz 66 _ _ (by decide) (by decide) _ _ _ _ _ _ _ S (lv_sub hl [3, 2, 1, 0] rfl) hF
