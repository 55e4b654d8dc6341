/-! ===== contracts and calls ===== -/
theorem ab_T.moved {D : va_G} {cA : Nat → ClassId} {sz : Nat} {s U : State} {H : Heap} {locs : List Loc} (h : ab_T D cA sz s) (hW : s.WarmedH U.vm) (hS : va_S (fun q => sz ≤ q) s.heap H locs) (hU : U.heap = H) : ab_T D cA sz U := by
  obtain ⟨h1, ⟨t, h2, h3⟩, ⟨h4, h5⟩, h6, h7, h8, h9⟩ := h
  have hq : ∀ a : Nat, a < s.heap.size → ¬ sz ≤ a → U.heap[a]? = s.heap[a]? := fun a ha hn => by rw [hU]; exact hS.2.1 a ha hn
  exact ⟨va_K.moved hW.alike h1, ⟨t, va_Z.kept (va_Z.moved hW.alike h2) hq, va_T.kept (va_T.moved hW.alike h3) hq⟩, ⟨va_Nw.warmM hW h4, va_Nw.warmM hW h5⟩, va_AO.moved hW.alike h6, va_AO.moved hW.alike h7, va_AO.moved hW.alike h8, va_AO.moved hW.alike h9⟩
theorem ab_blind {D : va_G} {cA : Nat → ClassId} {sz : Nat} {h : Hp} {av : List Value} : FrameBlind (va_Pc av (fun U => ab_W D cA sz h U)) := by
  intro a U g mk q
  obtain ⟨q0, ⟨h1, ⟨t, h2, h3⟩, ⟨h4, h5⟩, h6, h7, h8, h9⟩, q2⟩ := q
  have hv : U.vm.Alike (U.calling g mk a).vm := Vm.Alike.refl U.vm
  exact ⟨q0, ⟨va_K.moved hv h1, ⟨t, va_Z.moved hv h2, va_T.moved hv h3⟩, ⟨va_Nw.same rfl (rfl : U.vm = (U.calling g mk a).vm) h4, va_Nw.same rfl (rfl : U.vm = (U.calling g mk a).vm) h5⟩, va_AO.moved hv h6, va_AO.moved hv h7, va_AO.moved hv h8, va_AO.moved hv h9⟩, q2⟩
abbrev ab_rm (d mc ms : Nat) : Room := { frames := d, cells := mc, slots := ms, locals := 46 * d }
def ab_Q (D : va_G) (cA : Nat → ClassId) (sz : Nat) (v : Option Value) (h' : Hp) : Array Value → State → Outcome → State → Prop := fun _ st oc t => oc = .returned v ∧ ab_W D cA sz h' t ∧ va_F (fun q => sz ≤ q) st t
/-- from the heap h and these arguments the method y comes back with v and the heap h' -/
def ab_C (l : Launch) (D : va_G) (cA : Nat → ClassId) (sz : Nat) (y : MethodName) (b : ByteArray) (n : Nat) (ret : Option FieldType) (d mc ms : Nat) (av : List Value) (h : Hp) (v : Option Value) (h' : Hp) : Prop :=
  Met l y (.code y b n ret :: wsL_law) (ab_rm d mc ms) (va_Pc av (fun U => ab_W D cA sz h U)) (ab_Q D cA sz v h') mc ms (fun q => sz ≤ q)
def ab_MI (y : MethodName) (b : ByteArray) (n : Nat) (ret : Option FieldType) (np : Nat) : Prop := Cond.code y b n ret ∈ wsL_law ∧ Cond.initialized y.cls ∈ wsL_law ∧ y.cls ≠ "java/lang/invoke/MethodHandle" ∧ y.cls ≠ "java/lang/invoke/VarHandle" ∧ (parseMethodDescriptor y.desc).map (fun d => d.parameters.length) = some np
theorem ab_good {y : MethodName} {b : ByteArray} {n : Nat} {ret : Option FieldType} (h : Cond.code y b n ret ∈ wsL_law) : GoodIn wsL_law (.code y b n ret :: wsL_law) := fun w hw => by
  have hm : w ∈ wsL_law := by
    rcases List.mem_cons.mp hw with e | e
    · rw [e]; exact h
    · exact e
  exact ⟨hm, (wsL_law_good w hm).2⟩
section ABC
variable {p : Program} {l : Launch} {e : Env} {R : Room} {s : State} {m : MethodId} {args : Array Value} {below : List Frame} {meth : Method} {c : Code} {H : Heap} {locs : List Loc} {cells slots : Nat} {Q : State → Prop}
variable {cc : ByteArray} {pc : Nat} {ls : Array Slot} {rest st : List Value} {D : va_G} {cA : Nat → ClassId} {sz nL : Nat} {own : String} {h h' : Hp}
variable {y : MethodName} {b : ByteArray} {n d mc ms np idx ci N : Nat} {ret : Option FieldType} {As : List Value} {a : Nat} {r : Option Nat} {v : Option Value} {T : u_T}
theorem ab_back {av : List Value} (X : ab_X p s m args meth c cc nL own D cA sz) (hM : ab_C l D cA sz y b n ret d mc ms av h v h') (mi : ab_MI y b n ret np) (hroom : d + 1 ≤ R.frames ∧ 16 + (n + 11) + 46 * d ≤ R.locals) :
    Back l R p e below s args y 3 16 (PreOf R mc ms (va_Pc av (fun U => ab_W D cA sz h U))) (PostOf (ab_Q D cA sz v h') mc ms (fun q => sz ≤ q)) := by
  obtain ⟨hx, hb, hml, hown, hts, hT, -, -⟩ := X
  obtain ⟨hlc, hlz, -⟩ := mi
  exact back_of (rm := ab_rm d mc ms) (bytes := b) (maxL := n) (ret := ret) hM ab_blind rfl rfl hroom.1 hroom.2 (pay_in hts (ab_good hlc)) List.mem_cons_self (fun a' U hW => word_at hW (Or.inl (by first | rfl | simp [Cond.onTables, Cond.keeps, Cond.steady])) (hts _ hlz))
theorem ab_after {T0 U' t : State} {vm₁ : Vm} {g' : JFrame} {mk : MethodId} {av : Array Value} {L : List Loc} (S : ab_H D cA sz h s H locs) (hT0 : T0.heap = H) (hw : ab_W D cA sz h' t) (hF : va_F (fun q => sz ≤ q) ((T0.setVm vm₁).calling g' mk av) t) (e1 : U'.heap = t.heap) (hL : ∀ q ∈ L, sz ≤ q.base) : ab_H D cA sz h' s U'.heap (locs ++ L) := by
  obtain ⟨hz, hk⟩ := hF
  have hz' : H.size ≤ t.heap.size := by rw [← hT0]; exact hz
  have hk' : ∀ q : Nat, q < H.size → ¬ sz ≤ q → t.heap[q]? = H[q]? := fun q h1 h2 => by rw [← hT0] at h1 ⊢; exact hk q h1 h2
  refine ⟨by rw [e1]; exact hw.2, ⟨Nat.le_trans S.2.1 (by rw [e1]; exact hz'), fun q h1 h2 => ?_, fun q hq => ?_⟩⟩
  · rw [e1, hk' q (Nat.lt_of_lt_of_le h1 S.2.1) h2]
    exact S.2.2.1 q h1 h2
  · rcases List.mem_append.mp hq with g | g
    · exact S.2.2.2 q g
    · exact hL q g
theorem ab_pre {av : List Value} {T0 : State} {vm₁ : Vm} (X : ab_X p s m args meth c cc nL own D cA sz) (S : ab_H D cA sz h s H locs) (hT0 : T0.heap = H) (hW : s.WarmedH vm₁) : va_Pc av (fun U => ab_W D cA sz h U) av.toArray (T0.setVm vm₁) := by
  obtain ⟨hx, hb, hml, hown, hts, hT, -, -⟩ := X
  refine ⟨rfl, hT.moved (U := T0.setVm vm₁) hW S.2 hT0, ?_⟩
  show ab_R D cA sz h T0.heap
  rw [hT0]
  exact S.1
theorem ab_callV (X : ab_X p s m args meth c cc nL own D cA sz) (S : ab_H D cA sz h s H locs) (hck : ab_ck h r (ci, 0) = some a) (hM : ab_C l D cA sz y b n ret d mc ms (.ref a :: As) h v h') (hcl : vwCl[ci]? = some (y.cls, T, N)) (hci : ci < 10) (mi : ab_MI y b n ret np)
    (hlm : Cond.methodLink own idx y ∈ wsL_law) (hli : Cond.instanceMethod y ∈ wsL_law) (hls : Cond.selects y.cls y y ∈ wsL_law) (hnp : As.length = np) (hroom : d + 1 ≤ R.frames ∧ 16 + (n + 11) + 46 * d ≤ R.locals) (hc : cells + mc ≤ R.cells ∧ slots + ms ≤ R.slots) (hsize : ls.size = nL)
    (hst : st = As.reverse ++ va_rf r :: rest) (hrest : (rest.map fun v => v.category).sum ≤ 16) (hdg : decode cc pc = .ok (.invokevirtual idx, 3))
    (kk : ∀ (H1 : Heap) (locs1 : List Loc), ab_H D cA sz h' s H1 locs1 → W p l e R s m args below meth c H1 locs1 (cells + mc) (slots + ms) Q (F0 m (pc + 3) ls (v.toList ++ rest))) : W p l e R s m args below meth c H locs cells slots Q (F0 m pc ls st) := by
  subst hst
  obtain ⟨rfl, hk⟩ := ab_ck_some hck
  have hK : Back l R p e below s args y 3 16 _ _ := ab_back X hM mi hroom
  obtain ⟨hx, hb, hml, hown, hts, hT, -, -⟩ := id X
  obtain ⟨hlc, hlz, hy1, hy2, hlen⟩ := mi
  obtain ⟨cellB, hcB, hoB, hclB⟩ := va_recv hT.1 (S.1.one hk) hcl (a := a) (q0 := 0) (fs := ab_fs h a ci) (by simp [ab_ct, hci])
  intro T0 hT0 Xs
  obtain ⟨v', vm₁, ⟨U', l2, c2, s2⟩, hW₁, X', ⟨g', mk, t, L, e1, e2, hq, h1, hL, h2, h3⟩, hst⟩ := callV Xs hx (C := y.cls) (bytes := b) (maxL := n) (ret := ret) hown (hts _ hlm) (hts _ hli) (hts _ hls) (hts _ hlc) ⟨hy1, hy2⟩ hK (by rw [hT0]; exact hcB) hoB hclB (g := F0 m pc ls (As.reverse ++ .ref a :: rest)) rfl (hsize.trans hml.symm) (argsL := As) (rest := rest) (fun sig hs => by rw [hs] at hlen; exact hnp.trans (Option.some.inj hlen).symm) rfl (by show 2 * 0 + _ ≤ 16; omega) (by rw [hb]; exact hdg)
    (fun vm₁ hW₁ => ⟨hc.1, hc.2, ab_pre X S hT0 hW₁⟩)
  dsimp only [Pt.U, Pt.locs, Pt.cells, Pt.slots] at X' e1 e2 h1 h2 h3 hst
  subst h1; subst h2; subst h3
  obtain ⟨hv, hw, hF⟩ := hq
  cases hv
  obtain ⟨t2, a1, b1⟩ := kk U'.heap (locs ++ L) (ab_after S hT0 hw hF e1 hL) U' rfl X'
  exact ⟨t2, hst t2 a1, b1⟩
theorem ab_callS (X : ab_X p s m args meth c cc nL own D cA sz) (S : ab_H D cA sz h s H locs) (hM : ab_C l D cA sz y b n ret d mc ms As h v h') (mi : ab_MI y b n ret np)
    (hlm : Cond.methodLink own idx y ∈ wsL_law) (hlt : Cond.static y ∈ wsL_law) (hnp : As.length = np) (hroom : d + 1 ≤ R.frames ∧ 16 + (n + 11) + 46 * d ≤ R.locals) (hc : cells + mc ≤ R.cells ∧ slots + ms ≤ R.slots) (hsize : ls.size = nL)
    (hst : st = As.reverse ++ rest) (hrest : (rest.map fun v => v.category).sum ≤ 16) (hdg : decode cc pc = .ok (.invokestatic idx, 3))
    (kk : ∀ (H1 : Heap) (locs1 : List Loc), ab_H D cA sz h' s H1 locs1 → W p l e R s m args below meth c H1 locs1 (cells + mc) (slots + ms) Q (F0 m (pc + 3) ls (v.toList ++ rest))) : W p l e R s m args below meth c H locs cells slots Q (F0 m pc ls st) := by
  subst hst
  have hK : Back l R p e below s args y 3 16 _ _ := ab_back X hM mi hroom
  obtain ⟨hx, hb, hml, hown, hts, hT, -, -⟩ := id X
  obtain ⟨hlc, hlz, hy1, hy2, hlen⟩ := mi
  intro T0 hT0 Xs
  obtain ⟨v', vm₁, ⟨U', l2, c2, s2⟩, hW₁, X', ⟨g', mk, t, L, e1, e2, hq, h1, hL, h2, h3⟩, hst⟩ := callS Xs hx (bytes := b) (maxL := n) (ret := ret) hown (hts _ hlm) (hts _ hlt) (hts _ hlz) (hts _ hlc) ⟨hy1, hy2⟩ hK (g := F0 m pc ls (As.reverse ++ rest)) rfl (hsize.trans hml.symm) (argsL := As) (rest := rest) (fun sig hs => by rw [hs] at hlen; exact hnp.trans (Option.some.inj hlen).symm) rfl (by show 2 * 0 + _ ≤ 16; omega) (by rw [hb]; exact hdg)
    (fun vm₁ hW₁ => ⟨hc.1, hc.2, ab_pre X S hT0 hW₁⟩)
  dsimp only [Pt.U, Pt.locs, Pt.cells, Pt.slots] at X' e1 e2 h1 h2 h3 hst
  subst h1; subst h2; subst h3
  obtain ⟨hv, hw, hF⟩ := hq
  cases hv
  obtain ⟨t2, a1, b1⟩ := kk U'.heap (locs ++ L) (ab_after S hT0 hw hF e1 hL) U' rfl X'
  exact ⟨t2, hst t2 a1, b1⟩
/-- a private static method of a nest mate -/
theorem ab_callSN {host : String} (X : ab_X p s m args meth c cc nL own D cA sz) (S : ab_H D cA sz h s H locs) (hM : ab_C l D cA sz y b n ret d mc ms As h v h') (mi : ab_MI y b n ret np)
    (hlm : va_Nw (.methodLinkNest own idx y host) s) (hlt : Cond.static y ∈ wsL_law) (hnp : As.length = np) (hroom : d + 1 ≤ R.frames ∧ 16 + (n + 11) + 46 * d ≤ R.locals) (hc : cells + mc ≤ R.cells ∧ slots + ms ≤ R.slots) (hsize : ls.size = nL)
    (hst : st = As.reverse ++ rest) (hrest : (rest.map fun v => v.category).sum ≤ 16) (hdg : decode cc pc = .ok (.invokestatic idx, 3))
    (kk : ∀ (H1 : Heap) (locs1 : List Loc), ab_H D cA sz h' s H1 locs1 → W p l e R s m args below meth c H1 locs1 (cells + mc) (slots + ms) Q (F0 m (pc + 3) ls (v.toList ++ rest))) : W p l e R s m args below meth c H locs cells slots Q (F0 m pc ls st) := by
  subst hst
  have hK : Back l R p e below s args y 3 16 _ _ := ab_back X hM mi hroom
  obtain ⟨hx, hb, hml, hown, hts, hT, -, -⟩ := id X
  obtain ⟨hlc, hlz, hy1, hy2, hlen⟩ := mi
  intro T0 hT0 Xs
  obtain ⟨v', vm₁, ⟨U', l2, c2, s2⟩, hW₁, X', ⟨g', mk, t, L, e1, e2, hq, h1, hL, h2, h3⟩, hst⟩ := va_callSN Xs hx (bytes := b) (maxL := n) (ret := ret) hown (va_Nw.use rfl hlm) (hts _ hlt) (hts _ hlz) (hts _ hlc) ⟨hy1, hy2⟩ hK (g := F0 m pc ls (As.reverse ++ rest)) rfl (hsize.trans hml.symm) (argsL := As) (rest := rest) (fun sig hs => by rw [hs] at hlen; exact hnp.trans (Option.some.inj hlen).symm) rfl (by show 2 * 0 + _ ≤ 16; omega) (by rw [hb]; exact hdg)
    (fun vm₁ hW₁ => ⟨hc.1, hc.2, ab_pre X S hT0 hW₁⟩)
  dsimp only [Pt.U, Pt.locs, Pt.cells, Pt.slots] at X' e1 e2 h1 h2 h3 hst
  subst h1; subst h2; subst h3
  obtain ⟨hv, hw, hF⟩ := hq
  cases hv
  obtain ⟨t2, a1, b1⟩ := kk U'.heap (locs ++ L) (ab_after S hT0 hw hF e1 hL) U' rfl X'
  exact ⟨t2, hst t2 a1, b1⟩
theorem ab_callI (X : ab_X p s m args meth c cc nL own D cA sz) (S : ab_H D cA sz h s H locs) (hM : ab_C l D cA sz y b n none d mc ms (.ref a :: As) h v h') (mi : ab_MI y b n none np) (hyn : y.name = "<init>")
    (hlm : Cond.methodLink own idx y ∈ wsL_law) (hli : Cond.instanceMethod y ∈ wsL_law) (hnp : As.length = np) (hroom : d + 1 ≤ R.frames ∧ 16 + (n + 11) + 46 * d ≤ R.locals) (hc : cells + mc ≤ R.cells ∧ slots + ms ≤ R.slots) (hsize : ls.size = nL)
    (hst : st = As.reverse ++ va_rf (some a) :: rest) (hrest : (rest.map fun v => v.category).sum ≤ 16) (hdg : decode cc pc = .ok (.invokespecial idx, 3))
    (kk : ∀ (H1 : Heap) (locs1 : List Loc), ab_H D cA sz h' s H1 locs1 → W p l e R s m args below meth c H1 locs1 (cells + mc) (slots + ms) Q (F0 m (pc + 3) ls (v.toList ++ rest))) : W p l e R s m args below meth c H locs cells slots Q (F0 m pc ls st) := by
  subst hst
  have hK : Back l R p e below s args y 3 16 _ _ := ab_back X hM mi hroom
  obtain ⟨hx, hb, hml, hown, hts, hT, -, -⟩ := id X
  obtain ⟨hlc, hlz, hy1, hy2, hlen⟩ := mi
  intro T0 hT0 Xs
  obtain ⟨v', vm₁, ⟨U', l2, c2, s2⟩, hW₁, X', ⟨g', mk, t, L, e1, e2, hq, h1, hL, h2, h3⟩, hst⟩ := callI Xs hx (bytes := b) (maxL := n) hown hyn (hts _ hlm) (hts _ hli) (hts _ hlc) ⟨hy1, hy2⟩ hK (g := F0 m pc ls (As.reverse ++ .ref a :: rest)) rfl (hsize.trans hml.symm) (a := a) (argsL := As) (rest := rest) (fun sig hs => by rw [hs] at hlen; exact hnp.trans (Option.some.inj hlen).symm) rfl (by show 2 * 0 + _ ≤ 16; omega) (by rw [hb]; exact hdg)
    (fun vm₁ hW₁ => ⟨hc.1, hc.2, ab_pre X S hT0 hW₁⟩)
  dsimp only [Pt.U, Pt.locs, Pt.cells, Pt.slots] at X' e1 e2 h1 h2 h3 hst
  subst h1; subst h2; subst h3
  obtain ⟨hv, hw, hF⟩ := hq
  cases hv
  obtain ⟨t2, a1, b1⟩ := kk U'.heap (locs ++ L) (ab_after S hT0 hw hF e1 hL) U' rfl X'
  exact ⟨t2, hst t2 a1, b1⟩
/-! ends -/
theorem ab_end {t : State} (X : ab_X p s m args meth c cc nL own D cA sz) (S : ab_H D cA sz h s H locs) (ht : t.heap = H) (hW : s.WarmedH t.vm) : ab_Q D cA sz v h args s (.returned v) t := by
  obtain ⟨hx, hb, hml, hown, hts, hT, -, -⟩ := X
  exact ⟨rfl, ⟨hT.moved hW S.2 ht, by rw [ht]; exact S.1⟩, S.2.F ht⟩
theorem ab_iret {x : Int32} {rr : Int32} (X : ab_X p s m args meth c cc nL own D cA sz) (S : ab_H D cA sz h s H locs) (hr : meth.sig.returnType = some .int) (hF : some (x, h) = some (rr, h')) (hdg : decode cc pc = .ok (.ireturn, 1)) : W p l e R s m args below meth c H locs cells slots (MQ below (ab_Q D cA sz (some (.int rr)) h') args s cells slots (fun q => sz ≤ q)) (F0 m pc ls [.int x]) := by
  cases hF
  exact W.iret X.1 X.2.1 hr (fun t ht hW => ab_end X S ht hW) (fun q hq => S.2.2.2 q hq) hdg X.2.2.2.2.2.2.1
theorem ab_zret {x : Int32} {rr : Int32} (X : ab_X p s m args meth c cc nL own D cA sz) (S : ab_H D cA sz h s H locs) (hr : meth.sig.returnType = some .boolean) (hF : (if x = 0 ∨ x = 1 then some (x, h) else none) = some (rr, h')) (hdg : decode cc pc = .ok (.ireturn, 1)) : W p l e R s m args below meth c H locs cells slots (MQ below (ab_Q D cA sz (some (.int rr)) h') args s cells slots (fun q => sz ≤ q)) (F0 m pc ls [.int x]) := by
  split at hF
  · rename_i hv
    cases hF
    exact W.zret X.1 X.2.1 hr (by rcases hv with rfl | rfl <;> decide) (fun t ht hW => ab_end X S ht hW) (fun q hq => S.2.2.2 q hq) hdg X.2.2.2.2.2.2.1
  · cases hF
theorem ab_dret {x : UInt64} {rr : UInt64} (X : ab_X p s m args meth c cc nL own D cA sz) (S : ab_H D cA sz h s H locs) (hr : meth.sig.returnType = some .double) (hF : some (x, h) = some (rr, h')) (hdg : decode cc pc = .ok (.dreturn, 1)) : W p l e R s m args below meth c H locs cells slots (MQ below (ab_Q D cA sz (some (.double rr)) h') args s cells slots (fun q => sz ≤ q)) (F0 m pc ls [.double x]) := by
  cases hF
  exact W.dret X.1 X.2.1 hr (fun t ht hW => ab_end X S ht hW) (fun q hq => S.2.2.2 q hq) hdg X.2.2.2.2.2.2.1
theorem ab_lret {x : Int64} {rr : Int64} (X : ab_X p s m args meth c cc nL own D cA sz) (S : ab_H D cA sz h s H locs) (hr : meth.sig.returnType = some .long) (hF : some (x, h) = some (rr, h')) (hdg : decode cc pc = .ok (.lreturn, 1)) : W p l e R s m args below meth c H locs cells slots (MQ below (ab_Q D cA sz (some (.long rr)) h') args s cells slots (fun q => sz ≤ q)) (F0 m pc ls [.long x]) := by
  cases hF
  exact W.lret X.1 X.2.1 hr (fun t ht hW => ab_end X S ht hW) (fun q hq => S.2.2.2 q hq) hdg X.2.2.2.2.2.2.1
theorem ab_vret (X : ab_X p s m args meth c cc nL own D cA sz) (S : ab_H D cA sz h s H locs) (hr : meth.sig.returnType = none) (hF : some ((), h) = some ((), h')) (hdg : decode cc pc = .ok (.return_, 1)) : W p l e R s m args below meth c H locs cells slots (MQ below (ab_Q D cA sz none h') args s cells slots (fun q => sz ≤ q)) (F0 m pc ls []) := by
  cases hF
  exact W.vret X.1 X.2.1 hr (fun t ht hW => ab_end X S ht hW) (fun q hq => S.2.2.2 q hq) hdg X.2.2.2.2.2.2.1
theorem ab_aret {x : Option Nat} {rr : Option Nat} {rt : String} (X : ab_X p s m args meth c cc nL own D cA sz) (S : ab_H D cA sz h s H locs) (hr : meth.sig.returnType = some (.object rt)) (hF : some (x, h) = some (rr, h')) (hdg : decode cc pc = .ok (.areturn, 1)) : W p l e R s m args below meth c H locs cells slots (MQ below (ab_Q D cA sz (some (va_rf rr)) h') args s cells slots (fun q => sz ≤ q)) (F0 m pc ls [va_rf x]) := by
  cases hF
  exact W.aret X.1 X.2.1 hr (Or.inl ⟨_, rfl⟩) (by cases x with
    | none => exact Or.inl rfl
    | some a => exact Or.inr ⟨a, rfl⟩) (fun t ht hW => ab_end X S ht hW) (fun q hq => S.2.2.2 q hq) hdg X.2.2.2.2.2.2.1
end ABC
theorem ab_nb1 {n : Int32} (hn : ¬ (n < 0 ∨ 1000 < n.toNatClampNeg)) : n.toNatClampNeg * 1 ≤ 536870912 := by
  have : ¬ 1000 < n.toNatClampNeg := fun q => hn (Or.inr q)
  omega
theorem ab_nb4 {n : Int32} (hn : ¬ (n < 0 ∨ 1000 < n.toNatClampNeg)) : n.toNatClampNeg * 4 ≤ 536870912 := by
  have : ¬ 1000 < n.toNatClampNeg := fun q => hn (Or.inr q)
  omega
theorem ab_nb8 {n : Int32} (hn : ¬ (n < 0 ∨ 1000 < n.toNatClampNeg)) : n.toNatClampNeg * 8 ≤ 536870912 := by
  have : ¬ 1000 < n.toNatClampNeg := fun q => hn (Or.inr q)
  omega
/-! ===== making cells ===== -/
theorem ab_R.grow {D : va_G} {cA : Nat → ClassId} {sz : Nat} {h : Hp} {H H1 : Heap} {kd : Nat × Nat} (hR : ab_R D cA sz h H) (hat : va_at D vwCl (hpS h, ab_ct cA (alo h kd) (hpS h) kd) H1) (z : H1.size = H.size + 1) (oq : ∀ q : Nat, q < H.size → H1[q]? = H[q]?) : ab_R D cA sz (alo h kd) H1 := by
  refine ⟨by rw [z, hR.1]; rfl, Nat.le_trans hR.2.1 (Nat.le_succ _), fun b kd' hb => ?_⟩
  by_cases hba : b = hpS h
  · subst hba
    have : hpK (alo h kd) (hpS h) = some kd := by simp [hpK, alo, hpS, va_up]
    rw [this] at hb
    cases hb
    exact ⟨hat, hR.2.1⟩
  · have hba' : b ≠ h.1 := hba
    have e0 : hpK (alo h kd) b = hpK h b := by simp [hpK, alo, va_up, hba']
    have e1 : hpI (alo h kd) b = hpI h b := by simp [hpI, alo, va_up, hba']
    have e2 : hpD (alo h kd) b = hpD h b := by simp [hpD, alo, va_up, hba']
    have e3 : hpR (alo h kd) b = hpR h b := by simp [hpR, alo, va_up, hba']
    rw [e0] at hb
    obtain ⟨g1, g2⟩ := hR.2.2 b kd' hb
    have e4 : ab_ct cA (alo h kd) b kd' = ab_ct cA h b kd' := by simp only [ab_ct, ab_fs, ab_ac, ab_vof, e1, e2, e3]
    rw [e4]
    exact ⟨g1.kept (oq b g1.lt), g2⟩
section ABN
variable {p : Program} {l : Launch} {e : Env} {R : Room} {s : State} {m : MethodId} {args : Array Value} {below : List Frame} {meth : Method} {c : Code} {H : Heap} {locs : List Loc} {cells slots : Nat} {Q : State → Prop}
variable {cc : ByteArray} {pc : Nat} {ls : Array Slot} {rest : List Value} {D : va_G} {cA : Nat → ClassId} {sz nL : Nat} {own : String} {h : Hp}
theorem ab_H.grow {H1 : Heap} {kd : Nat × Nat} (S : ab_H D cA sz h s H locs) (hat : va_at D vwCl (hpS h, ab_ct cA (alo h kd) (hpS h) kd) H1) (z : H1.size = H.size + 1) (oq : ∀ q : Nat, q < H.size → H1[q]? = H[q]?) : ab_H D cA sz (alo h kd) s H1 locs :=
  ⟨S.1.grow hat z oq, Nat.le_trans S.2.1 (by omega), fun q h1 h2 => (oq q (Nat.lt_of_lt_of_le h1 S.2.1)).trans (S.2.2.1 q h1 h2), S.2.2.2⟩
theorem ab_new {ci N idx t : Nat} {C : String} {T : u_T} (X : ab_X p s m args meth c cc nL own D cA sz) (S : ab_H D cA sz h s H locs) (fi : ab_FI ci 0 C T N t) (hCI : ab_CI ci T N) (hfs : ∀ j, j < N → defaultValue (ab_ty ci j) = (if ab_tc (ab_ty ci j) = 0 then .int 0 else if ab_tc (ab_ty ci j) = 1 then .double 0 else .null))
    (hlk : Cond.classLink own idx C ∈ wsL_law) (hln : Cond.instantiable C N ∈ wsL_law) (hlz : Cond.initialized C ∈ wsL_law) (hcells : cells + 1 ≤ R.cells) (hslots : slots + N ≤ R.slots) (hdg : decode cc pc = .ok (.new idx, 3))
    (kk : ∀ H1 : Heap, ab_H D cA sz (alo h (ci, 0)) s H1 locs → W p l e R s m args below meth c H1 locs (cells + 1) (slots + N) Q (F0 m (pc + 3) ls (va_rf (some (hpS h)) :: rest))) : W p l e R s m args below meth c H locs cells slots Q (F0 m pc ls rest) := by
  obtain ⟨hx, hb, hml, hown, hts, hT, -, -⟩ := X
  obtain ⟨hc, hin, hkN, hNF, hci, htc⟩ := fi
  have hKn := hT.1.1 ci _ hc
  refine W.newcK hx hb hown (hts _ hlk) (hts _ hln) (hts _ hlz) rfl hdg hcells hslots hKn.2.1 S.1.1 fun H1 kC hkC e1 z1 o1 => ?_
  refine kk H1 (S.grow ?_ (by rw [z1, S.1.1]) (fun q hq => o1 q (by rw [← S.1.1]; exact hq)))
  have hct : ab_ct cA (alo h (ci, 0)) (hpS h) (ci, 0) = .inr (ci, ab_fs (alo h (ci, 0)) (hpS h) ci) := by simp [ab_ct, hci]
  rw [hct]
  refine ⟨_, hc, (u_born (ab_ty ci) hts hin hKn hkC e1 hCI.1).to (fun j hj => ?_)⟩
  show _ = (ab_fs (alo h (ci, 0)) (hpS h) ci).getD j .null
  rw [List.getD_eq_getElem?_getD, ab_fs_get (by rw [hNF]; exact hj), hfs j hj]
  simp [ab_vof, hpI, hpD, hpR, alo, hpS, va_up, va_rf]
theorem ab_newI {γ : Type} {n : Int32} {f : Option Nat → Hp → Option γ} {res : γ} (X : ab_X p s m args meth c cc nL own D cA sz) (S : ab_H D cA sz h s H locs) (hF : bnd (newa h 11 n) f = some res) (hla : Cond.arrayClass .int ∈ wsL_law) (hcells : cells + 1 ≤ R.cells) (hslots : slots + 1000 ≤ R.slots) (hdg : decode cc pc = .ok (.newarray .int, 2))
    (kk : ∀ (r1 : Option Nat) (h1 : Hp) (H1 : Heap), f r1 h1 = some res → ab_H D cA sz h1 s H1 locs → W p l e R s m args below meth c H1 locs (cells + 1) (slots + 1000) Q (F0 m (pc + 2) ls (va_rf r1 :: rest))) : W p l e R s m args below meth c H locs cells slots Q (F0 m pc ls (.int n :: rest)) := by
  obtain ⟨r1, h1, h2, hG⟩ := bnd_out hF
  unfold newa at h2
  split at h2
  · cases h2
  rename_i hn
  cases h2
  obtain ⟨hx, hb, hml, hown, hts, hT, -, -⟩ := X
  refine va_newaK (atype := .int) hx hb (hts _ hla) rfl hdg rfl (fun q => hn (Or.inl q)) rfl (ab_nb4 hn) hcells (Nat.le_trans (Nat.add_le_add_left (by have : ¬ 1000 < n.toNatClampNeg := fun q => hn (Or.inr q); omega) _) hslots) S.1.1 fun H1 cB e1 z1 o1 hAr hNm => ?_
  have hcB : cB = cA 11 := Option.some.inj (hNm.symm.trans (hT.1.2 1 _ rfl).2)
  subst hcB
  refine W.widen (k := cells + 1) (n := slots + 1000) (Nat.le_refl _) (Nat.add_le_add_left (by have : ¬ 1000 < n.toNatClampNeg := fun q => hn (Or.inr q); omega) _) ?_
  refine kk _ _ H1 hG (S.grow ?_ (by rw [z1, S.1.1]) (fun q hq => o1 q (by rw [← S.1.1]; exact hq)))
  have hct : ab_ct cA (alo h (11, n.toNatClampNeg)) (hpS h) (11, n.toNatClampNeg) = .inl (cA 11, n.toNatClampNeg, .inl (fun _ => 0)) := by simp [ab_ct, ab_ac, hpI, alo, hpS, va_up]
  rw [hct]
  show H1[hpS h]? = some (vp_cell _ _)
  rw [e1, vp_cell_i]
  rfl
theorem ab_newZ {γ : Type} {n : Int32} {f : Option Nat → Hp → Option γ} {res : γ} (X : ab_X p s m args meth c cc nL own D cA sz) (S : ab_H D cA sz h s H locs) (hF : bnd (newa h 12 n) f = some res) (hla : Cond.arrayClass .boolean ∈ wsL_law) (hcells : cells + 1 ≤ R.cells) (hslots : slots + 1000 ≤ R.slots) (hdg : decode cc pc = .ok (.newarray .boolean, 2))
    (kk : ∀ (r1 : Option Nat) (h1 : Hp) (H1 : Heap), f r1 h1 = some res → ab_H D cA sz h1 s H1 locs → W p l e R s m args below meth c H1 locs (cells + 1) (slots + 1000) Q (F0 m (pc + 2) ls (va_rf r1 :: rest))) : W p l e R s m args below meth c H locs cells slots Q (F0 m pc ls (.int n :: rest)) := by
  obtain ⟨r1, h1, h2, hG⟩ := bnd_out hF
  unfold newa at h2
  split at h2
  · cases h2
  rename_i hn
  cases h2
  obtain ⟨hx, hb, hml, hown, hts, hT, -, -⟩ := X
  refine va_newaK (atype := .boolean) hx hb (hts _ hla) rfl hdg rfl (fun q => hn (Or.inl q)) rfl (ab_nb1 hn) hcells (Nat.le_trans (Nat.add_le_add_left (by have : ¬ 1000 < n.toNatClampNeg := fun q => hn (Or.inr q); omega) _) hslots) S.1.1 fun H1 cB e1 z1 o1 hAr hNm => ?_
  have hcB : cB = cA 12 := Option.some.inj (hNm.symm.trans (hT.1.2 2 _ rfl).2)
  subst hcB
  refine W.widen (k := cells + 1) (n := slots + 1000) (Nat.le_refl _) (Nat.add_le_add_left (by have : ¬ 1000 < n.toNatClampNeg := fun q => hn (Or.inr q); omega) _) ?_
  refine kk _ _ H1 hG (S.grow ?_ (by rw [z1, S.1.1]) (fun q hq => o1 q (by rw [← S.1.1]; exact hq)))
  have hct : ab_ct cA (alo h (12, n.toNatClampNeg)) (hpS h) (12, n.toNatClampNeg) = .inl (cA 12, n.toNatClampNeg, .inl (fun _ => 0)) := by simp [ab_ct, ab_ac, hpI, alo, hpS, va_up]
  rw [hct]
  show H1[hpS h]? = some (vp_cell _ _)
  rw [e1, vp_cell_i]
  rfl
theorem ab_newD {γ : Type} {n : Int32} {f : Option Nat → Hp → Option γ} {res : γ} (X : ab_X p s m args meth c cc nL own D cA sz) (S : ab_H D cA sz h s H locs) (hF : bnd (newa h 10 n) f = some res) (hla : Cond.arrayClass .double ∈ wsL_law) (hcells : cells + 1 ≤ R.cells) (hslots : slots + 1000 ≤ R.slots) (hdg : decode cc pc = .ok (.newarray .double, 2))
    (kk : ∀ (r1 : Option Nat) (h1 : Hp) (H1 : Heap), f r1 h1 = some res → ab_H D cA sz h1 s H1 locs → W p l e R s m args below meth c H1 locs (cells + 1) (slots + 1000) Q (F0 m (pc + 2) ls (va_rf r1 :: rest))) : W p l e R s m args below meth c H locs cells slots Q (F0 m pc ls (.int n :: rest)) := by
  obtain ⟨r1, h1, h2, hG⟩ := bnd_out hF
  unfold newa at h2
  split at h2
  · cases h2
  rename_i hn
  cases h2
  obtain ⟨hx, hb, hml, hown, hts, hT, -, -⟩ := X
  refine va_newaK (atype := .double) hx hb (hts _ hla) rfl hdg rfl (fun q => hn (Or.inl q)) rfl (ab_nb8 hn) hcells (Nat.le_trans (Nat.add_le_add_left (by have : ¬ 1000 < n.toNatClampNeg := fun q => hn (Or.inr q); omega) _) hslots) S.1.1 fun H1 cB e1 z1 o1 hAr hNm => ?_
  have hcB : cB = cA 10 := Option.some.inj (hNm.symm.trans (hT.1.2 0 _ rfl).2)
  subst hcB
  refine W.widen (k := cells + 1) (n := slots + 1000) (Nat.le_refl _) (Nat.add_le_add_left (by have : ¬ 1000 < n.toNatClampNeg := fun q => hn (Or.inr q); omega) _) ?_
  refine kk _ _ H1 hG (S.grow ?_ (by rw [z1, S.1.1]) (fun q hq => o1 q (by rw [← S.1.1]; exact hq)))
  have hct : ab_ct cA (alo h (10, n.toNatClampNeg)) (hpS h) (10, n.toNatClampNeg) = .inl (cA 10, n.toNatClampNeg, .inr (.inr (.inr (.inl (fun _ => 0))))) := by simp [ab_ct, ab_ac, hpD, alo, hpS, va_up]
  rw [hct]
  show H1[hpS h]? = some (vp_cell _ _)
  rw [e1, vp_cell_d]
  rfl
theorem ab_newR {γ : Type} {n : Int32} {t idx : Nat} {C : String} {f : Option Nat → Hp → Option γ} {res : γ} (X : ab_X p s m args meth c cc nL own D cA sz) (S : ab_H D cA sz h s H locs) (hF : bnd (newa h t n) f = some res) (ht : (ab_ts cA)[t - 10]? = some (cA t, .object C)) (ht2 : 12 < t) (hao : va_AO C s) (hlk : Cond.classLink own idx C ∈ wsL_law) (hcells : cells + 1 ≤ R.cells) (hslots : slots + 1000 ≤ R.slots) (hdg : decode cc pc = .ok (.anewarray idx, 3))
    (kk : ∀ (r1 : Option Nat) (h1 : Hp) (H1 : Heap), f r1 h1 = some res → ab_H D cA sz h1 s H1 locs → W p l e R s m args below meth c H1 locs (cells + 1) (slots + 1000) Q (F0 m (pc + 3) ls (va_rf r1 :: rest))) : W p l e R s m args below meth c H locs cells slots Q (F0 m pc ls (.int n :: rest)) := by
  obtain ⟨r1, h1, h2, hG⟩ := bnd_out hF
  unfold newa at h2
  split at h2
  · cases h2
  rename_i hn
  cases h2
  obtain ⟨hx, hb, hml, hown, hts, hT, -, -⟩ := X
  refine W.anew hx hb hown (hts _ hlk) (va_AO.use hao) rfl hdg rfl (fun q => hn (Or.inl q)) (ab_nb4 hn) hcells (Nat.le_trans (Nat.add_le_add_left (by have : ¬ 1000 < n.toNatClampNeg := fun q => hn (Or.inr q); omega) _) hslots) fun cB kA comp f1 f2 f3 f4 => ?_
  have hcB : cB = cA t := by
    obtain ⟨kA', comp', g1, g2, g3, g4⟩ := (hT.1.2 _ _ ht).2
    exact Option.some.inj (f1.symm.trans g4)
  subst hcB
  rw [S.1.1]
  refine W.widen (k := cells + 1) (n := slots + 1000) (Nat.le_refl _) (Nat.add_le_add_left (by have : ¬ 1000 < n.toNatClampNeg := fun q => hn (Or.inr q); omega) _) ?_
  refine kk _ _ _ hG (S.grow ?_ (by simp) (fun q hq => by rw [Array.getElem?_push, if_neg (Nat.ne_of_lt hq)]))
  have hct : ab_ct cA (alo h (t, n.toNatClampNeg)) (hpS h) (t, n.toNatClampNeg) = .inl (cA t, n.toNatClampNeg, .inr (.inr (.inr (.inr (fun _ => none))))) := by
    simp [ab_ct, ab_ac, hpR, alo, hpS, va_up, show ¬ t < 10 by omega, show t ≠ 10 by omega, show t ≠ 11 by omega, show t ≠ 12 by omega]
  rw [hct]
  show (H.push _)[hpS h]? = some (vp_cell _ _)
  rw [← S.1.1, Array.getElem?_push_size, vp_cell_q, ← arrV_new]
  rfl
theorem ab_astR {γ : Type} {r w : Option Nat} {t : Nat} {q : vw_C} {i : Int32} {f : Hp → Option γ} {res : γ} (X : ab_X p s m args meth c cc nL own D cA sz) (S : ab_H D cA sz h s H locs) (hF : (astR h r t i w).bind f = some res) (ht : (ab_ts cA)[t - 10]? = some (cA t, .object q.1)) (ht2 : 12 < t) (hq : vwCl[ab_ec t]? = some q) (hdg : decode cc pc = .ok (.aastore, 1))
    (kk : ∀ (h' : Hp) (H1 : Heap) (locs1 : List Loc), f h' = some res → ab_H D cA sz h' s H1 locs1 → W p l e R s m args below meth c H1 locs1 cells slots Q (F0 m (pc + 1) ls rest)) : W p l e R s m args below meth c H locs cells slots Q (F0 m pc ls (va_rf w :: .int i :: va_rf r :: rest)) := by
  obtain ⟨x, h1, hG⟩ := bind_out hF
  obtain ⟨a, h2, h3⟩ := bind_out h1
  obtain ⟨v, h4, h5⟩ := map_out h3
  obtain ⟨rfl, n, hk, hin⟩ := ab_ar_some h2
  obtain ⟨rfl, hkv⟩ := ab_ck_some h4
  obtain ⟨hx, hb, hml, hown, hts, hT, -, -⟩ := X
  subst h5
  have hec : ab_ec t < 10 := by unfold ab_ec; split <;> decide
  have hlt : i.toNatClampNeg < n := Nat.not_le.mp fun q => hin (Or.inr q)
  have h0 : ¬ i < 0 := fun q => hin (Or.inl q)
  have hcta : ∀ hh : Hp, ab_ct cA hh a (t, n) = .inl (cA t, n, .inr (.inr (.inr (.inr (hpR hh a))))) := fun hh => by
    simp [ab_ct, ab_ac, show ¬ t < 10 by omega, show t ≠ 10 by omega, show t ≠ 11 by omega, show t ≠ 12 by omega]
  have hat : H[a]? = some (vp_cell (cA t) (n, .inr (.inr (.inr (.inr (hpR h a)))))) := by have := (S.1.2.2 a _ hk).1; rw [hcta] at this; exact this
  have hatv := (S.1.2.2 v _ hkv).1
  rw [show ab_ct cA h v (ab_ec t, 0) = .inr (ab_ec t, ab_fs h v (ab_ec t)) by simp [ab_ct, hec]] at hatv
  obtain ⟨r', hr', cellV, g1, g2, g3, -⟩ := hatv
  have hcls := (hT.1.1 (ab_ec t) q hq).2
  obtain ⟨kA, comp, k1, k2, k3, -⟩ := (hT.1.2 (t - 10) _ ht).2
  have hcomp : comp = D.1 (ab_ec t) := Option.some.inj (k3.symm.trans hcls.1)
  subst hcomp
  obtain ⟨kC, hkC, -⟩ := hcls.2
  refine W.aast hx hb hat (fun q h => by cases h) (fun h => by cases h) k1 k2 rfl hkC ⟨h0, by show _ < (arrV _ _ _).slots.size; rw [arrV_size]; exact hlt⟩ g1 (fun q h => by rw [g3] at h; cases h) (by rw [g2]; exact hkC) (by rw [g2]; exact va_assign hcls) rfl rfl hdg fun H1 e z oq => ?_
  refine kk _ H1 _ hG ⟨S.1.set hk rfl rfl (fun b kd hb => ab_ct_stR b kd hb) ?_ z oq, S.2.put z oq (S.1.2.2 a _ hk).2⟩
  rw [hcta]
  show H1[a]? = some (vp_cell _ _)
  rw [e, vp_cell_q, vp_cell_q, arrV_store]
  congr 2
  funext q
  by_cases hq : q = i.toNatClampNeg
  · subst hq
    simp [updV, hpR, stR, up2, va_rf]
  · simp [updV, hpR, stR, up2, hq]
end ABN
/-! ===== small rows ===== -/
theorem ab_pos {γ : Type} {P : Prop} {i : Decidable P} {A B : Option γ} {res : γ} (c : P) (hF : (@ite _ P i A B) = some res) : A = some res := by rw [if_pos c] at hF; exact hF
theorem ab_neg {γ : Type} {P : Prop} {i : Decidable P} {A B : Option γ} {res : γ} (c : ¬ P) (hF : (@ite _ P i A B) = some res) : B = some res := by rw [if_neg c] at hF; exact hF
theorem ab_fop {γ : Type} {r : UInt64} {f : UInt64 → Option γ} {res : γ} (hF : (fop r).bind f = some res) : vf_n64 r ∧ f r = some res := by
  obtain ⟨x, h1, h2⟩ := bind_out hF
  unfold fop at h1
  split at h1
  · rename_i hv
    cases h1
    exact ⟨hv, h2⟩
  · cases h1
theorem ab_fop32 {γ : Type} {r : UInt32} {f : UInt32 → Option γ} {res : γ} (hF : (fop32 r).bind f = some res) : vf_n32 r ∧ f r = some res := by
  obtain ⟨x, h1, h2⟩ := bind_out hF
  unfold fop32 at h1
  split at h1
  · rename_i hv
    cases h1
    exact ⟨hv, h2⟩
  · cases h1
theorem ab_cat (r : Option Nat) : (va_rf r).category = 1 := by cases r <;> rfl
section ABM
variable {p : Program} {l : Launch} {e : Env} {R : Room} {s : State} {m : MethodId} {args : Array Value} {below : List Frame} {meth : Method} {c : Code} {H : Heap} {locs : List Loc} {cells slots : Nat} {Q : State → Prop}
variable {cc : ByteArray} {pc : Nat} {ls : Array Slot} {rest : List Value} {D : va_G} {cA : Nat → ClassId} {sz nL : Nat} {own : String} {h : Hp}
theorem ab_aload_n {k : Fin 4} {i : Nat} {r : Option Nat} (X : ab_X p s m args meth c cc nL own D cA sz) (hdg : decode cc pc = .ok (.aload_n k, 1)) (hi : (k : Nat) = i) (hl : ls[i]? = some (.val (va_rf r))) (kk : W p l e R s m args below meth c H locs cells slots Q (F0 m (pc + 1) ls (va_rf r :: rest))) : W p l e R s m args below meth c H locs cells slots Q (F0 m pc ls rest) := by
  cases r with
  | none => exact lv_aload_nN X.1 X.2.1 hdg hi hl kk
  | some a => exact lv_aload_n X.1 X.2.1 hdg hi hl kk
theorem ab_aload {i : Nat} {r : Option Nat} (X : ab_X p s m args meth c cc nL own D cA sz) (hdg : decode cc pc = .ok (.aload i, 2)) (hl : ls[i]? = some (.val (va_rf r))) (kk : W p l e R s m args below meth c H locs cells slots Q (F0 m (pc + 2) ls (va_rf r :: rest))) : W p l e R s m args below meth c H locs cells slots Q (F0 m pc ls rest) := by
  cases r with
  | none => exact lv_aloadN X.1 X.2.1 hdg hl kk
  | some a => exact lv_aload X.1 X.2.1 hdg hl kk
theorem ab_astore_n {k : Fin 4} {i n : Nat} {r : Option Nat} {lv lv' : List (Nat × Value)} (X : ab_X p s m args meth c cc nL own D cA sz) (hdg : decode cc pc = .ok (.astore_n k, 1)) (hi : (k : Nat) = i) (h : lv_has ls n lv) (hn : i < n) (hl : (i, va_rf r) :: lv.filter (fun q => !(q.1 == i) && !(q.1 + 1 == i && q.2.category == 2)) = lv')
    (kk : ∀ ls' : Array Slot, lv_has ls' n lv' → W p l e R s m args below meth c H locs cells slots Q (F0 m (pc + 1) ls' rest)) : W p l e R s m args below meth c H locs cells slots Q (F0 m pc ls (va_rf r :: rest)) := by
  cases r with
  | none => exact lv_astore_nN X.1 X.2.1 hdg hi h hn hl kk
  | some a => exact lv_astore_n X.1 X.2.1 hdg hi h hn hl kk
theorem ab_astore {i n : Nat} {r : Option Nat} {lv lv' : List (Nat × Value)} (X : ab_X p s m args meth c cc nL own D cA sz) (hdg : decode cc pc = .ok (.astore i, 2)) (h : lv_has ls n lv) (hn : i < n) (hl : (i, va_rf r) :: lv.filter (fun q => !(q.1 == i) && !(q.1 + 1 == i && q.2.category == 2)) = lv')
    (kk : ∀ ls' : Array Slot, lv_has ls' n lv' → W p l e R s m args below meth c H locs cells slots Q (F0 m (pc + 2) ls' rest)) : W p l e R s m args below meth c H locs cells slots Q (F0 m pc ls (va_rf r :: rest)) := by
  cases r with
  | none => exact lv_astoreN X.1 X.2.1 hdg h hn hl kk
  | some a => exact lv_astore X.1 X.2.1 hdg h hn hl kk
theorem ab_ifnull {r : Option Nat} {off : Int} {tgt : Nat} (X : ab_X p s m args meth c cc nL own D cA sz) (hdg : decode cc pc = .ok (.ifnull off, 3)) (ht : (pc : Int) + off = (tgt : Int)) (kt : r = none → W p l e R s m args below meth c H locs cells slots Q (F0 m tgt ls rest)) (kf : ¬ r = none → W p l e R s m args below meth c H locs cells slots Q (F0 m (pc + 3) ls rest)) : W p l e R s m args below meth c H locs cells slots Q (F0 m pc ls (va_rf r :: rest)) := by
  cases r with
  | none => exact lv_ifnullN X.1 X.2.1 hdg ht (kt rfl)
  | some a => exact lv_ifnull X.1 X.2.1 hdg (kf (fun h => by cases h))
theorem ab_ifnonnull {r : Option Nat} {off : Int} {tgt : Nat} (X : ab_X p s m args meth c cc nL own D cA sz) (hdg : decode cc pc = .ok (.ifnonnull off, 3)) (ht : (pc : Int) + off = (tgt : Int)) (kt : ¬ r = none → W p l e R s m args below meth c H locs cells slots Q (F0 m tgt ls rest)) (kf : ¬ ¬ r = none → W p l e R s m args below meth c H locs cells slots Q (F0 m (pc + 3) ls rest)) : W p l e R s m args below meth c H locs cells slots Q (F0 m pc ls (va_rf r :: rest)) := by
  cases r with
  | none => exact lv_ifnonnullN X.1 X.2.1 hdg (kf (fun h => h rfl))
  | some a => exact lv_ifnonnull X.1 X.2.1 hdg ht (kt (fun h => by cases h))
theorem ab_tab {dflt lo hi : Int} {offs : Array Int} {len : Nat} {x k : Int32} {off : Int} {tgt : Nat} (X : ab_X p s m args meth c cc nL own D cA sz) (hdg : decode cc pc = .ok (.tableswitch dflt lo hi offs, len)) (hx : x = k) (h1 : ¬ k.toInt < lo) (h2 : ¬ hi < k.toInt) (ho : offs[(k.toInt - lo).toNat]? = some off) (ht : (pc : Int) + off = (tgt : Int))
    (kk : W p l e R s m args below meth c H locs cells slots Q (F0 m tgt ls rest)) : W p l e R s m args below meth c H locs cells slots Q (F0 m pc ls (.int x :: rest)) := by
  subst hx
  exact lv_tableIn X.1 X.2.1 hdg h1 h2 ho ht kk
theorem ab_objInit {a : Nat} {idx : Nat} (X : ab_X p s m args meth c cc nL own D cA sz) (hlm : Cond.methodLink own idx objectInit ∈ wsL_law) (hsize : ls.size = nL) (hframes : 1 ≤ R.frames) (hlocals : (rest.map fun v => v.category).sum + 12 ≤ R.locals) (hdg : decode cc pc = .ok (.invokespecial idx, 3))
    (kk : W p l e R s m args below meth c H locs cells slots Q (F0 m (pc + 3) ls rest)) : W p l e R s m args below meth c H locs cells slots Q (F0 m pc ls (va_rf (some a) :: rest)) := by
  obtain ⟨hx, hb, hml, hown, hts, hT, -, -⟩ := X
  exact W.objInit hx hb hown (hts _ hlm) (hts _ li_objectInit) (hts _ lc_objectInit) (g := F0 m pc ls (.ref a :: rest)) rfl (hsize.trans hml.symm) rfl hdg hframes (by show 2 * 0 + _ + 12 ≤ _; omega) kk
end ABM
def fuelN : Nat := 1000
def ab_max (x y : Int32) : Int32 := if x < y then y else x
def ab_min (x y : Int32) : Int32 := if y < x then y else x
theorem ab_enter {p : Program} {l : Launch} {e : Env} {s s₁ : State} {m : MethodId} {args : Array Value} {below : List Frame} {meth : Method} {c : Code} {y : MethodName} {b : ByteArray} {n : Nat} {ret : Option FieldType} {rm : Room} {D : va_G} {cA : Nat → ClassId} {sz : Nat} {h : Hp}
    (B : BodyLoose p l y (headSpec (.code y b n ret :: wsL_law) rm) b n ret e s m args below meth c s₁) (hml : c.maxLocals = n) (hT : ab_T D cA sz s) (hR : ab_R D cA sz h s.heap) : ab_X p s m args meth c b n y.cls D cA sz ∧ ab_H D cA sz h s s.heap [] :=
  ⟨⟨B.exec, B.bytes, hml, findClass_of_methodNamed B.named, fun w hw => atoms_spec (ws := .code y b n ret :: wsL_law) B.pre w (List.mem_cons_of_mem _ hw), hT, B.notSynchronized, by rw [hR.1]; exact hR.2.1⟩, hR, va_S.rf⟩
theorem ci_0 : ab_CI 0 TX0 9 := ⟨tyX0_ok, nmX0⟩
theorem ci_1 : ab_CI 1 TX1 14 := ⟨tyX1_ok, nmX1⟩
theorem ci_2 : ab_CI 2 TX2 2 := ⟨tyX2_ok, nmX2⟩
theorem ci_3 : ab_CI 3 TX3 2 := ⟨tyX3_ok, nmX3⟩
theorem ci_4 : ab_CI 4 TX4 12 := ⟨tyX4_ok, nmX4⟩
theorem ci_5 : ab_CI 5 TX5 4 := ⟨tyX5_ok, nmX5⟩
theorem ci_6 : ab_CI 6 TX6 14 := ⟨tyX6_ok, nmX6⟩
theorem ci_7 : ab_CI 7 TX7 1 := ⟨tyX7_ok, nmX7⟩
theorem ci_8 : ab_CI 8 TX8 11 := ⟨tyX8_ok, nmX8⟩
theorem ci_9 : ab_CI 9 TX9 62 := ⟨tyX9_ok, nmX9⟩
section ABK
variable {p : Program} {l : Launch} {e : Env} {R : Room} {s : State} {m : MethodId} {args : Array Value} {below : List Frame} {meth : Method} {c : Code} {H : Heap} {locs : List Loc} {cells slots : Nat} {Q : State → Prop}
variable {cc : ByteArray} {pc : Nat} {ls : Array Slot} {rest st : List Value} {D : va_G} {cA : Nat → ClassId} {sz nL : Nat} {own host : String} {h h' : Hp}
variable {y : MethodName} {b : ByteArray} {n d np idx ci N : Nat} {ret : Option FieldType} {As : List Value} {a : Nat} {r : Option Nat} {T : u_T}
theorem ab_callVi {x : Int32} (X : ab_X p s m args meth c cc nL own D cA sz) (S : ab_H D cA sz h s H locs) (hck : ab_ck h r (ci, 0) = some a) (hM : ab_C l D cA sz y b n ret d 0 0 (.ref a :: As) h (some (.int x)) h') (hcl : vwCl[ci]? = some (y.cls, T, N)) (hci : ci < 10) (mi : ab_MI y b n ret np) (hlm : Cond.methodLink own idx y ∈ wsL_law) (hli : Cond.instanceMethod y ∈ wsL_law) (hls : Cond.selects y.cls y y ∈ wsL_law) (hnp : As.length = np) (hroom : d + 1 ≤ R.frames ∧ 16 + (n + 11) + 46 * d ≤ R.locals) (hcc : cells ≤ R.cells ∧ slots ≤ R.slots) (hsize : ls.size = nL)
    (hst : st = As.reverse ++ va_rf r :: rest) (hrest : (rest.map fun v => v.category).sum ≤ 16) (hdg : decode cc pc = .ok (.invokevirtual idx, 3))
    (kk : ∀ (H1 : Heap) (locs1 : List Loc), ab_H D cA sz h' s H1 locs1 → W p l e R s m args below meth c H1 locs1 cells slots Q (F0 m (pc + 3) ls (.int x :: rest))) : W p l e R s m args below meth c H locs cells slots Q (F0 m pc ls st) :=
  ab_callV X S hck hM hcl hci mi hlm hli hls hnp hroom hcc hsize hst hrest hdg kk
theorem ab_callSi {x : Int32} (X : ab_X p s m args meth c cc nL own D cA sz) (S : ab_H D cA sz h s H locs) (hM : ab_C l D cA sz y b n ret d 0 0 As h (some (.int x)) h') (mi : ab_MI y b n ret np) (hlm : Cond.methodLink own idx y ∈ wsL_law) (hlt : Cond.static y ∈ wsL_law) (hnp : As.length = np) (hroom : d + 1 ≤ R.frames ∧ 16 + (n + 11) + 46 * d ≤ R.locals) (hcc : cells ≤ R.cells ∧ slots ≤ R.slots) (hsize : ls.size = nL)
    (hst : st = As.reverse ++ rest) (hrest : (rest.map fun v => v.category).sum ≤ 16) (hdg : decode cc pc = .ok (.invokestatic idx, 3))
    (kk : ∀ (H1 : Heap) (locs1 : List Loc), ab_H D cA sz h' s H1 locs1 → W p l e R s m args below meth c H1 locs1 cells slots Q (F0 m (pc + 3) ls (.int x :: rest))) : W p l e R s m args below meth c H locs cells slots Q (F0 m pc ls st) :=
  ab_callS X S hM mi hlm hlt hnp hroom hcc hsize hst hrest hdg kk
theorem ab_callSNi {x : Int32} (X : ab_X p s m args meth c cc nL own D cA sz) (S : ab_H D cA sz h s H locs) (hM : ab_C l D cA sz y b n ret d 0 0 As h (some (.int x)) h') (mi : ab_MI y b n ret np) (hlm : va_Nw (.methodLinkNest own idx y host) s) (hlt : Cond.static y ∈ wsL_law) (hnp : As.length = np) (hroom : d + 1 ≤ R.frames ∧ 16 + (n + 11) + 46 * d ≤ R.locals) (hcc : cells ≤ R.cells ∧ slots ≤ R.slots) (hsize : ls.size = nL)
    (hst : st = As.reverse ++ rest) (hrest : (rest.map fun v => v.category).sum ≤ 16) (hdg : decode cc pc = .ok (.invokestatic idx, 3))
    (kk : ∀ (H1 : Heap) (locs1 : List Loc), ab_H D cA sz h' s H1 locs1 → W p l e R s m args below meth c H1 locs1 cells slots Q (F0 m (pc + 3) ls (.int x :: rest))) : W p l e R s m args below meth c H locs cells slots Q (F0 m pc ls st) :=
  ab_callSN X S hM mi hlm hlt hnp hroom hcc hsize hst hrest hdg kk
theorem ab_callVd {x : UInt64} (X : ab_X p s m args meth c cc nL own D cA sz) (S : ab_H D cA sz h s H locs) (hck : ab_ck h r (ci, 0) = some a) (hM : ab_C l D cA sz y b n ret d 0 0 (.ref a :: As) h (some (.double x)) h') (hcl : vwCl[ci]? = some (y.cls, T, N)) (hci : ci < 10) (mi : ab_MI y b n ret np) (hlm : Cond.methodLink own idx y ∈ wsL_law) (hli : Cond.instanceMethod y ∈ wsL_law) (hls : Cond.selects y.cls y y ∈ wsL_law) (hnp : As.length = np) (hroom : d + 1 ≤ R.frames ∧ 16 + (n + 11) + 46 * d ≤ R.locals) (hcc : cells ≤ R.cells ∧ slots ≤ R.slots) (hsize : ls.size = nL)
    (hst : st = As.reverse ++ va_rf r :: rest) (hrest : (rest.map fun v => v.category).sum ≤ 16) (hdg : decode cc pc = .ok (.invokevirtual idx, 3))
    (kk : ∀ (H1 : Heap) (locs1 : List Loc), ab_H D cA sz h' s H1 locs1 → W p l e R s m args below meth c H1 locs1 cells slots Q (F0 m (pc + 3) ls (.double x :: rest))) : W p l e R s m args below meth c H locs cells slots Q (F0 m pc ls st) :=
  ab_callV X S hck hM hcl hci mi hlm hli hls hnp hroom hcc hsize hst hrest hdg kk
theorem ab_callSd {x : UInt64} (X : ab_X p s m args meth c cc nL own D cA sz) (S : ab_H D cA sz h s H locs) (hM : ab_C l D cA sz y b n ret d 0 0 As h (some (.double x)) h') (mi : ab_MI y b n ret np) (hlm : Cond.methodLink own idx y ∈ wsL_law) (hlt : Cond.static y ∈ wsL_law) (hnp : As.length = np) (hroom : d + 1 ≤ R.frames ∧ 16 + (n + 11) + 46 * d ≤ R.locals) (hcc : cells ≤ R.cells ∧ slots ≤ R.slots) (hsize : ls.size = nL)
    (hst : st = As.reverse ++ rest) (hrest : (rest.map fun v => v.category).sum ≤ 16) (hdg : decode cc pc = .ok (.invokestatic idx, 3))
    (kk : ∀ (H1 : Heap) (locs1 : List Loc), ab_H D cA sz h' s H1 locs1 → W p l e R s m args below meth c H1 locs1 cells slots Q (F0 m (pc + 3) ls (.double x :: rest))) : W p l e R s m args below meth c H locs cells slots Q (F0 m pc ls st) :=
  ab_callS X S hM mi hlm hlt hnp hroom hcc hsize hst hrest hdg kk
theorem ab_callSNd {x : UInt64} (X : ab_X p s m args meth c cc nL own D cA sz) (S : ab_H D cA sz h s H locs) (hM : ab_C l D cA sz y b n ret d 0 0 As h (some (.double x)) h') (mi : ab_MI y b n ret np) (hlm : va_Nw (.methodLinkNest own idx y host) s) (hlt : Cond.static y ∈ wsL_law) (hnp : As.length = np) (hroom : d + 1 ≤ R.frames ∧ 16 + (n + 11) + 46 * d ≤ R.locals) (hcc : cells ≤ R.cells ∧ slots ≤ R.slots) (hsize : ls.size = nL)
    (hst : st = As.reverse ++ rest) (hrest : (rest.map fun v => v.category).sum ≤ 16) (hdg : decode cc pc = .ok (.invokestatic idx, 3))
    (kk : ∀ (H1 : Heap) (locs1 : List Loc), ab_H D cA sz h' s H1 locs1 → W p l e R s m args below meth c H1 locs1 cells slots Q (F0 m (pc + 3) ls (.double x :: rest))) : W p l e R s m args below meth c H locs cells slots Q (F0 m pc ls st) :=
  ab_callSN X S hM mi hlm hlt hnp hroom hcc hsize hst hrest hdg kk
theorem ab_callVl {x : Int64} (X : ab_X p s m args meth c cc nL own D cA sz) (S : ab_H D cA sz h s H locs) (hck : ab_ck h r (ci, 0) = some a) (hM : ab_C l D cA sz y b n ret d 0 0 (.ref a :: As) h (some (.long x)) h') (hcl : vwCl[ci]? = some (y.cls, T, N)) (hci : ci < 10) (mi : ab_MI y b n ret np) (hlm : Cond.methodLink own idx y ∈ wsL_law) (hli : Cond.instanceMethod y ∈ wsL_law) (hls : Cond.selects y.cls y y ∈ wsL_law) (hnp : As.length = np) (hroom : d + 1 ≤ R.frames ∧ 16 + (n + 11) + 46 * d ≤ R.locals) (hcc : cells ≤ R.cells ∧ slots ≤ R.slots) (hsize : ls.size = nL)
    (hst : st = As.reverse ++ va_rf r :: rest) (hrest : (rest.map fun v => v.category).sum ≤ 16) (hdg : decode cc pc = .ok (.invokevirtual idx, 3))
    (kk : ∀ (H1 : Heap) (locs1 : List Loc), ab_H D cA sz h' s H1 locs1 → W p l e R s m args below meth c H1 locs1 cells slots Q (F0 m (pc + 3) ls (.long x :: rest))) : W p l e R s m args below meth c H locs cells slots Q (F0 m pc ls st) :=
  ab_callV X S hck hM hcl hci mi hlm hli hls hnp hroom hcc hsize hst hrest hdg kk
theorem ab_callSl {x : Int64} (X : ab_X p s m args meth c cc nL own D cA sz) (S : ab_H D cA sz h s H locs) (hM : ab_C l D cA sz y b n ret d 0 0 As h (some (.long x)) h') (mi : ab_MI y b n ret np) (hlm : Cond.methodLink own idx y ∈ wsL_law) (hlt : Cond.static y ∈ wsL_law) (hnp : As.length = np) (hroom : d + 1 ≤ R.frames ∧ 16 + (n + 11) + 46 * d ≤ R.locals) (hcc : cells ≤ R.cells ∧ slots ≤ R.slots) (hsize : ls.size = nL)
    (hst : st = As.reverse ++ rest) (hrest : (rest.map fun v => v.category).sum ≤ 16) (hdg : decode cc pc = .ok (.invokestatic idx, 3))
    (kk : ∀ (H1 : Heap) (locs1 : List Loc), ab_H D cA sz h' s H1 locs1 → W p l e R s m args below meth c H1 locs1 cells slots Q (F0 m (pc + 3) ls (.long x :: rest))) : W p l e R s m args below meth c H locs cells slots Q (F0 m pc ls st) :=
  ab_callS X S hM mi hlm hlt hnp hroom hcc hsize hst hrest hdg kk
theorem ab_callSNl {x : Int64} (X : ab_X p s m args meth c cc nL own D cA sz) (S : ab_H D cA sz h s H locs) (hM : ab_C l D cA sz y b n ret d 0 0 As h (some (.long x)) h') (mi : ab_MI y b n ret np) (hlm : va_Nw (.methodLinkNest own idx y host) s) (hlt : Cond.static y ∈ wsL_law) (hnp : As.length = np) (hroom : d + 1 ≤ R.frames ∧ 16 + (n + 11) + 46 * d ≤ R.locals) (hcc : cells ≤ R.cells ∧ slots ≤ R.slots) (hsize : ls.size = nL)
    (hst : st = As.reverse ++ rest) (hrest : (rest.map fun v => v.category).sum ≤ 16) (hdg : decode cc pc = .ok (.invokestatic idx, 3))
    (kk : ∀ (H1 : Heap) (locs1 : List Loc), ab_H D cA sz h' s H1 locs1 → W p l e R s m args below meth c H1 locs1 cells slots Q (F0 m (pc + 3) ls (.long x :: rest))) : W p l e R s m args below meth c H locs cells slots Q (F0 m pc ls st) :=
  ab_callSN X S hM mi hlm hlt hnp hroom hcc hsize hst hrest hdg kk
theorem ab_callVa {x : Option Nat} (X : ab_X p s m args meth c cc nL own D cA sz) (S : ab_H D cA sz h s H locs) (hck : ab_ck h r (ci, 0) = some a) (hM : ab_C l D cA sz y b n ret d 0 0 (.ref a :: As) h (some (va_rf x)) h') (hcl : vwCl[ci]? = some (y.cls, T, N)) (hci : ci < 10) (mi : ab_MI y b n ret np) (hlm : Cond.methodLink own idx y ∈ wsL_law) (hli : Cond.instanceMethod y ∈ wsL_law) (hls : Cond.selects y.cls y y ∈ wsL_law) (hnp : As.length = np) (hroom : d + 1 ≤ R.frames ∧ 16 + (n + 11) + 46 * d ≤ R.locals) (hcc : cells ≤ R.cells ∧ slots ≤ R.slots) (hsize : ls.size = nL)
    (hst : st = As.reverse ++ va_rf r :: rest) (hrest : (rest.map fun v => v.category).sum ≤ 16) (hdg : decode cc pc = .ok (.invokevirtual idx, 3))
    (kk : ∀ (H1 : Heap) (locs1 : List Loc), ab_H D cA sz h' s H1 locs1 → W p l e R s m args below meth c H1 locs1 cells slots Q (F0 m (pc + 3) ls (va_rf x :: rest))) : W p l e R s m args below meth c H locs cells slots Q (F0 m pc ls st) :=
  ab_callV X S hck hM hcl hci mi hlm hli hls hnp hroom hcc hsize hst hrest hdg kk
theorem ab_callSa {x : Option Nat} (X : ab_X p s m args meth c cc nL own D cA sz) (S : ab_H D cA sz h s H locs) (hM : ab_C l D cA sz y b n ret d 0 0 As h (some (va_rf x)) h') (mi : ab_MI y b n ret np) (hlm : Cond.methodLink own idx y ∈ wsL_law) (hlt : Cond.static y ∈ wsL_law) (hnp : As.length = np) (hroom : d + 1 ≤ R.frames ∧ 16 + (n + 11) + 46 * d ≤ R.locals) (hcc : cells ≤ R.cells ∧ slots ≤ R.slots) (hsize : ls.size = nL)
    (hst : st = As.reverse ++ rest) (hrest : (rest.map fun v => v.category).sum ≤ 16) (hdg : decode cc pc = .ok (.invokestatic idx, 3))
    (kk : ∀ (H1 : Heap) (locs1 : List Loc), ab_H D cA sz h' s H1 locs1 → W p l e R s m args below meth c H1 locs1 cells slots Q (F0 m (pc + 3) ls (va_rf x :: rest))) : W p l e R s m args below meth c H locs cells slots Q (F0 m pc ls st) :=
  ab_callS X S hM mi hlm hlt hnp hroom hcc hsize hst hrest hdg kk
theorem ab_callSNa {x : Option Nat} (X : ab_X p s m args meth c cc nL own D cA sz) (S : ab_H D cA sz h s H locs) (hM : ab_C l D cA sz y b n ret d 0 0 As h (some (va_rf x)) h') (mi : ab_MI y b n ret np) (hlm : va_Nw (.methodLinkNest own idx y host) s) (hlt : Cond.static y ∈ wsL_law) (hnp : As.length = np) (hroom : d + 1 ≤ R.frames ∧ 16 + (n + 11) + 46 * d ≤ R.locals) (hcc : cells ≤ R.cells ∧ slots ≤ R.slots) (hsize : ls.size = nL)
    (hst : st = As.reverse ++ rest) (hrest : (rest.map fun v => v.category).sum ≤ 16) (hdg : decode cc pc = .ok (.invokestatic idx, 3))
    (kk : ∀ (H1 : Heap) (locs1 : List Loc), ab_H D cA sz h' s H1 locs1 → W p l e R s m args below meth c H1 locs1 cells slots Q (F0 m (pc + 3) ls (va_rf x :: rest))) : W p l e R s m args below meth c H locs cells slots Q (F0 m pc ls st) :=
  ab_callSN X S hM mi hlm hlt hnp hroom hcc hsize hst hrest hdg kk
theorem ab_callVv (X : ab_X p s m args meth c cc nL own D cA sz) (S : ab_H D cA sz h s H locs) (hck : ab_ck h r (ci, 0) = some a) (hM : ab_C l D cA sz y b n ret d 0 0 (.ref a :: As) h none h') (hcl : vwCl[ci]? = some (y.cls, T, N)) (hci : ci < 10) (mi : ab_MI y b n ret np) (hlm : Cond.methodLink own idx y ∈ wsL_law) (hli : Cond.instanceMethod y ∈ wsL_law) (hls : Cond.selects y.cls y y ∈ wsL_law) (hnp : As.length = np) (hroom : d + 1 ≤ R.frames ∧ 16 + (n + 11) + 46 * d ≤ R.locals) (hcc : cells ≤ R.cells ∧ slots ≤ R.slots) (hsize : ls.size = nL)
    (hst : st = As.reverse ++ va_rf r :: rest) (hrest : (rest.map fun v => v.category).sum ≤ 16) (hdg : decode cc pc = .ok (.invokevirtual idx, 3))
    (kk : ∀ (H1 : Heap) (locs1 : List Loc), ab_H D cA sz h' s H1 locs1 → W p l e R s m args below meth c H1 locs1 cells slots Q (F0 m (pc + 3) ls rest)) : W p l e R s m args below meth c H locs cells slots Q (F0 m pc ls st) :=
  ab_callV X S hck hM hcl hci mi hlm hli hls hnp hroom hcc hsize hst hrest hdg kk
theorem ab_callSv (X : ab_X p s m args meth c cc nL own D cA sz) (S : ab_H D cA sz h s H locs) (hM : ab_C l D cA sz y b n ret d 0 0 As h none h') (mi : ab_MI y b n ret np) (hlm : Cond.methodLink own idx y ∈ wsL_law) (hlt : Cond.static y ∈ wsL_law) (hnp : As.length = np) (hroom : d + 1 ≤ R.frames ∧ 16 + (n + 11) + 46 * d ≤ R.locals) (hcc : cells ≤ R.cells ∧ slots ≤ R.slots) (hsize : ls.size = nL)
    (hst : st = As.reverse ++ rest) (hrest : (rest.map fun v => v.category).sum ≤ 16) (hdg : decode cc pc = .ok (.invokestatic idx, 3))
    (kk : ∀ (H1 : Heap) (locs1 : List Loc), ab_H D cA sz h' s H1 locs1 → W p l e R s m args below meth c H1 locs1 cells slots Q (F0 m (pc + 3) ls rest)) : W p l e R s m args below meth c H locs cells slots Q (F0 m pc ls st) :=
  ab_callS X S hM mi hlm hlt hnp hroom hcc hsize hst hrest hdg kk
theorem ab_callSNv (X : ab_X p s m args meth c cc nL own D cA sz) (S : ab_H D cA sz h s H locs) (hM : ab_C l D cA sz y b n ret d 0 0 As h none h') (mi : ab_MI y b n ret np) (hlm : va_Nw (.methodLinkNest own idx y host) s) (hlt : Cond.static y ∈ wsL_law) (hnp : As.length = np) (hroom : d + 1 ≤ R.frames ∧ 16 + (n + 11) + 46 * d ≤ R.locals) (hcc : cells ≤ R.cells ∧ slots ≤ R.slots) (hsize : ls.size = nL)
    (hst : st = As.reverse ++ rest) (hrest : (rest.map fun v => v.category).sum ≤ 16) (hdg : decode cc pc = .ok (.invokestatic idx, 3))
    (kk : ∀ (H1 : Heap) (locs1 : List Loc), ab_H D cA sz h' s H1 locs1 → W p l e R s m args below meth c H1 locs1 cells slots Q (F0 m (pc + 3) ls rest)) : W p l e R s m args below meth c H locs cells slots Q (F0 m pc ls st) :=
  ab_callSN X S hM mi hlm hlt hnp hroom hcc hsize hst hrest hdg kk
theorem ab_mmax {x y : Int32} {idx : Nat} (X : ab_X p s m args meth c cc nL own D cA sz) (hlm : Cond.methodLink own idx Lib.Math.max.name ∈ wsL_law) (hcc : cells ≤ R.cells ∧ slots ≤ R.slots) (hsize : ls.size = nL) (hframes : 1 ≤ R.frames) (hlocals : (rest.map fun v => v.category).sum + 13 ≤ R.locals) (hdg : decode cc pc = .ok (.invokestatic idx, 3))
    (kk : W p l e R s m args below meth c H locs cells slots Q (F0 m (pc + 3) ls (.int (ab_max x y) :: rest))) : W p l e R s m args below meth c H locs cells slots Q (F0 m pc ls (.int y :: .int x :: rest)) := by
  obtain ⟨hx, hb, hml, hown, hts, hT, -, -⟩ := X
  exact va_mmax hx hb (hml.trans hsize.symm) hown (hts _ hlm) (hts _ lt_Lib_Math_max_name) (hts _ lz_java_lang_Math) (hts _ lc_Lib_Math_max_name) hframes hlocals hcc.1 hcc.2 hdg kk
theorem ab_mmin {x y : Int32} {idx : Nat} (X : ab_X p s m args meth c cc nL own D cA sz) (hlm : Cond.methodLink own idx Lib.Math.min.name ∈ wsL_law) (hcc : cells ≤ R.cells ∧ slots ≤ R.slots) (hsize : ls.size = nL) (hframes : 1 ≤ R.frames) (hlocals : (rest.map fun v => v.category).sum + 13 ≤ R.locals) (hdg : decode cc pc = .ok (.invokestatic idx, 3))
    (kk : W p l e R s m args below meth c H locs cells slots Q (F0 m (pc + 3) ls (.int (ab_min x y) :: rest))) : W p l e R s m args below meth c H locs cells slots Q (F0 m pc ls (.int y :: .int x :: rest)) := by
  obtain ⟨hx, hb, hml, hown, hts, hT, -, -⟩ := X
  exact va_mmin hx hb (hml.trans hsize.symm) hown (hts _ hlm) (hts _ lt_Lib_Math_min_name) (hts _ lz_java_lang_Math) (hts _ lc_Lib_Math_min_name) hframes hlocals hcc.1 hcc.2 hdg kk
end ABK
/-! ===== System.arraycopy between two rows of one kind ===== -/
def ab_cq (h : Hp) (t : Nat) (src : Option Nat) (sp : Int32) (dst : Option Nat) (dp n : Int32) : Option (Nat × Nat) := src.bind fun a => dst.bind fun b => (hpK h a).bind fun ka => (hpK h b).bind fun kb =>
  if ka.1 = t ∧ kb.1 = t ∧ ¬ sp < 0 ∧ ¬ dp < 0 ∧ ¬ n < 0 ∧ sp.toNatClampNeg + n.toNatClampNeg ≤ ka.2 ∧ dp.toNatClampNeg + n.toNatClampNeg ≤ kb.2 then some (a, b) else none
def cpI (h : Hp) (a b sp dp n : Nat) : Hp := (h.1, h.2.1, va_up h.2.2.1 b (va_cpy (hpI h a) (hpI h b) sp dp n), h.2.2.2.1, h.2.2.2.2)
def cpD (h : Hp) (a b sp dp n : Nat) : Hp := (h.1, h.2.1, h.2.2.1, va_up h.2.2.2.1 b (va_cpy (hpD h a) (hpD h b) sp dp n), h.2.2.2.2)
def copI (h : Hp) (src : Option Nat) (sp : Int32) (dst : Option Nat) (dp n : Int32) : Option Hp := (ab_cq h 11 src sp dst dp n).map fun q => cpI h q.1 q.2 sp.toNatClampNeg dp.toNatClampNeg n.toNatClampNeg
def copD (h : Hp) (src : Option Nat) (sp : Int32) (dst : Option Nat) (dp n : Int32) : Option Hp := (ab_cq h 10 src sp dst dp n).map fun q => cpD h q.1 q.2 sp.toNatClampNeg dp.toNatClampNeg n.toNatClampNeg
theorem ab_cq_some {h : Hp} {t : Nat} {src dst : Option Nat} {sp dp n : Int32} {q : Nat × Nat} (e : ab_cq h t src sp dst dp n = some q) : src = some q.1 ∧ dst = some q.2 ∧ ∃ n0 n1, hpK h q.1 = some (t, n0) ∧ hpK h q.2 = some (t, n1) ∧ ¬ sp < 0 ∧ ¬ dp < 0 ∧ ¬ n < 0 ∧ sp.toNatClampNeg + n.toNatClampNeg ≤ n0 ∧ dp.toNatClampNeg + n.toNatClampNeg ≤ n1 := by
  obtain ⟨a, ea, e⟩ := bind_out e
  obtain ⟨b, eb, e⟩ := bind_out e
  obtain ⟨ka, ha, e⟩ := bind_out e
  obtain ⟨kb, hb, e⟩ := bind_out e
  split at e
  · rename_i hc
    obtain ⟨h1, h2, h3⟩ := hc
    cases e
    obtain ⟨t0, n0⟩ := ka
    obtain ⟨t1, n1⟩ := kb
    cases h1
    cases h2
    exact ⟨ea, eb, n0, n1, ha, hb, h3⟩
  · cases e
theorem ab_nn (z : Int32) (hz : ¬ z < 0) : z.toInt = (z.toNatClampNeg : Int) := by
  have hz0 : (0 : Int) ≤ z.toInt := by
    have := Int32.not_lt.mp hz
    simpa using Int32.le_iff_toInt_le.mp this
  show z.toInt = ((z.toInt.toNat : Nat) : Int)
  omega
section ABP
variable {p : Program} {l : Launch} {e : Env} {R : Room} {s : State} {m : MethodId} {args : Array Value} {below : List Frame} {meth : Method} {c : Code} {H : Heap} {locs : List Loc} {cells slots : Nat} {Q : State → Prop}
variable {cc : ByteArray} {pc : Nat} {ls : Array Slot} {rest : List Value} {D : va_G} {cA : Nat → ClassId} {sz nL : Nat} {own : String} {h : Hp}
/-- a stretch of one row into another: what the machine's heap is behind it -/
theorem ab_cop0 {α : Type} (mk : α → Value) {idx a b t n0 n1 : Nat} {ty : FieldType} {f g : Nat → α} {sp dp n : Int32} {h' : Hp} (X : ab_X p s m args meth c cc nL own D cA sz) (S : ab_H D cA sz h s H locs) (hka : hpK h a = some (t, n0)) (hkb : hpK h b = some (t, n1)) (hca : H[a]? = some (arrV (cA t) n0 (fun j => mk (f j)))) (hcb : H[b]? = some (arrV (cA t) n1 (fun j => mk (g j))))
    (hty : (ab_ts cA)[t - 10]? = some (cA t, ty)) (hprim : refKind ty = false) (hfit : ∀ x : α, fits ty (mk x) = true) (h1 : ¬ sp < 0) (h2 : ¬ dp < 0) (h3 : ¬ n < 0) (h4 : sp.toNatClampNeg + n.toNatClampNeg ≤ n0) (h5 : dp.toNatClampNeg + n.toNatClampNeg ≤ n1) (hisv : ∀ (x : α) (U : State) (k : ClassId), U.takes k (mk x))
    (e1 : hpS h' = hpS h) (e2 : hpK h' = hpK h) (e3 : ∀ q kd, q ≠ b → ab_ct cA h' q kd = ab_ct cA h q kd) (e4 : ∀ H1 : Heap, H1[b]? = some (arrV (cA t) n1 (fun j => mk (va_cpy f g sp.toNatClampNeg dp.toNatClampNeg n.toNatClampNeg j))) → va_at D vwCl (b, ab_ct cA h' b (t, n1)) H1)
    (hlm : Cond.methodLink own idx arraycopyName ∈ wsL_law) (hsize : ls.size = nL) (hframes : 1 ≤ R.frames) (hlocals : (rest.map fun v => v.category).sum + (nativeFrameWords "java/lang/System" "arraycopy" 5 + 11) ≤ R.locals) (hdg : decode cc pc = .ok (.invokestatic idx, 3))
    (kk : ∀ (H1 : Heap) (locs1 : List Loc), ab_H D cA sz h' s H1 locs1 → W p l e R s m args below meth c H1 locs1 cells slots Q (F0 m (pc + 3) ls rest)) : W p l e R s m args below meth c H locs cells slots Q (F0 m pc ls (.int n :: .int dp :: .ref b :: .int sp :: .ref a :: rest)) := by
  obtain ⟨hx, hb, hml, hown, hts, hT, -, -⟩ := X
  intro T hT0 Xs
  obtain ⟨-, k0, hk0, cm0, hkk0⟩ := (hT.1.2 _ _ hty).1 n0 (fun j => mk (f j))
  obtain ⟨-, k1, hk1, cm1, hkk1⟩ := (hT.1.2 _ _ hty).1 n1 (fun j => mk (g j))
  obtain ⟨vm', X', step⟩ := Xs.arraycopy hx hown (hts _ hlm) (hts _ lv_n_arraycopyName) (hts _ lt_arraycopyName) (hts _ lz_java_lang_System) (src := a) (dst := b) (cs := arrV (cA t) n0 (fun j => mk (f j))) (cd := arrV (cA t) n1 (fun j => mk (g j))) (srcPos := sp) (destPos := dp) (n := n) (by rw [hT0]; exact hca) (by rw [hT0]; exact hcb)
    (fun _ h => by cases h) (fun _ h => by cases h) (fun h => by cases h) (fun h => by cases h) hk0 hk1 hkk0 hkk1 (by simp [hprim]) h1 h2 h3
    (by rw [ab_nn sp h1, ab_nn n h3, arrV_size]; omega)
    (by rw [ab_nn dp h2, ab_nn n h3, arrV_size]; omega)
    (fun vm₁ _ i hi => by
      have e : (arrV (cA t) n0 (fun j => mk (f j))).slots.getD (sp.toNatClampNeg + i) .null = mk (f (sp.toNatClampNeg + i)) := by
        rw [Array.getD_eq_getD_getElem?, arrV_read _ _ (by omega)]
        rfl
      refine ⟨?_, ?_⟩
      · rw [e]
        exact hfit _
      · rw [e]
        exact hisv _ _ _)
    (g := F0 m pc ls (.int n :: .int dp :: .ref b :: .int sp :: .ref a :: rest)) rfl (hsize.trans hml.symm) (rest := rest) rfl (by rw [hb]; exact hdg) hframes (by show 2 * 0 + _ + _ ≤ _; omega)
  have ec : copied (arrV (cA t) n0 (fun j => mk (f j))) (arrV (cA t) n1 (fun j => mk (g j))) sp dp n = arrV (cA t) n1 (fun j => mk (va_cpy f g sp.toNatClampNeg dp.toNatClampNeg n.toNatClampNeg j)) := va_copied mk (cA t) (cA t) f g h4
  rw [ec] at X' step
  have hl : b < H.size := (Array.getElem?_eq_some_iff.mp hcb).1
  have hheap : ((T.setVm vm').setCell b (arrV (cA t) n1 (fun j => mk (va_cpy f g sp.toNatClampNeg dp.toNatClampNeg n.toNatClampNeg j)))).heap = H.setIfInBounds b (arrV (cA t) n1 (fun j => mk (va_cpy f g sp.toNatClampNeg dp.toNatClampNeg n.toNatClampNeg j))) := by rw [← hT0]; rfl
  have oq : ∀ q : Nat, q ≠ b → (H.setIfInBounds b (arrV (cA t) n1 (fun j => mk (va_cpy f g sp.toNatClampNeg dp.toNatClampNeg n.toNatClampNeg j))))[q]? = H[q]? := fun q hq => by simp [Array.getElem?_setIfInBounds, Ne.symm hq]
  have hbz := (S.1.2.2 b _ hkb).2
  obtain ⟨t1, a1, b1⟩ := kk _ _ ⟨S.1.set hkb e1 e2 e3 (e4 _ (by simp [Array.getElem?_setIfInBounds, hl])) (by simp) oq, ⟨by simp; exact S.2.1, fun q g1 g2 => by
      rw [oq q (fun e => g2 (by rw [e]; exact hbz))]
      exact S.2.2.1 q g1 g2, fun q hq => by
      rcases List.mem_append.mp hq with h | h
      · exact S.2.2.2 q h
      · obtain ⟨z, -, hz⟩ := List.mem_map.mp h
        rw [← hz]
        exact hbz⟩⟩ _ hheap X'
  exact ⟨t1, step t1 a1, b1⟩
theorem ab_copI {γ : Type} {src dst : Option Nat} {sp dp n : Int32} {idx : Nat} {f : Hp → Option γ} {res : γ} (X : ab_X p s m args meth c cc nL own D cA sz) (S : ab_H D cA sz h s H locs) (hF : (copI h src sp dst dp n).bind f = some res) (hlm : Cond.methodLink own idx arraycopyName ∈ wsL_law) (hsize : ls.size = nL) (hframes : 1 ≤ R.frames) (hlocals : (rest.map fun v => v.category).sum + (nativeFrameWords "java/lang/System" "arraycopy" 5 + 11) ≤ R.locals) (hdg : decode cc pc = .ok (.invokestatic idx, 3))
    (kk : ∀ (h' : Hp) (H1 : Heap) (locs1 : List Loc), f h' = some res → ab_H D cA sz h' s H1 locs1 → W p l e R s m args below meth c H1 locs1 cells slots Q (F0 m (pc + 3) ls rest)) : W p l e R s m args below meth c H locs cells slots Q (F0 m pc ls (.int n :: .int dp :: va_rf dst :: .int sp :: va_rf src :: rest)) := by
  obtain ⟨x, g1, hG⟩ := bind_out hF
  obtain ⟨⟨a, b⟩, g2, g3⟩ := map_out g1
  obtain ⟨rfl, rfl, n0, n1, hka, hkb, h1, h2, h3, h4, h5⟩ := ab_cq_some g2
  subst g3
  have hca : H[a]? = some (arrV (cA 11) n0 (fun j => .int (hpI h a j))) := by have := (S.1.2.2 a _ hka).1; rw [show ab_ct cA h a (11, n0) = .inl (cA 11, n0, .inl (hpI h a)) by simp [ab_ct, ab_ac]] at this; exact this
  have hcb : H[b]? = some (arrV (cA 11) n1 (fun j => .int (hpI h b j))) := by have := (S.1.2.2 b _ hkb).1; rw [show ab_ct cA h b (11, n1) = .inl (cA 11, n1, .inl (hpI h b)) by simp [ab_ct, ab_ac]] at this; exact this
  refine ab_cop0 (fun z : Int32 => Value.int z) X S hka hkb hca hcb rfl rfl (fun _ => rfl) h1 h2 h3 h4 h5 (fun _ _ _ => trivial) (h' := cpI h a b sp.toNatClampNeg dp.toNatClampNeg n.toNatClampNeg) rfl rfl (fun q kd hq => ?_) (fun H1 hH => ?_) hlm hsize hframes hlocals hdg (fun H1 locs1 S1 => kk _ H1 locs1 hG S1)
  · have ei : hpI (cpI h a b sp.toNatClampNeg dp.toNatClampNeg n.toNatClampNeg) q = hpI h q := by simp [hpI, cpI, va_up, hq]
    simp only [ab_ct, ab_fs, ab_ac, ab_vof, ei]
    rfl
  · rw [show ab_ct cA (cpI h a b sp.toNatClampNeg dp.toNatClampNeg n.toNatClampNeg) b (11, n1) = .inl (cA 11, n1, .inl (va_cpy (hpI h a) (hpI h b) sp.toNatClampNeg dp.toNatClampNeg n.toNatClampNeg)) by simp [ab_ct, ab_ac, hpI, cpI, va_up]]
    exact hH
theorem ab_copD {γ : Type} {src dst : Option Nat} {sp dp n : Int32} {idx : Nat} {f : Hp → Option γ} {res : γ} (X : ab_X p s m args meth c cc nL own D cA sz) (S : ab_H D cA sz h s H locs) (hF : (copD h src sp dst dp n).bind f = some res) (hlm : Cond.methodLink own idx arraycopyName ∈ wsL_law) (hsize : ls.size = nL) (hframes : 1 ≤ R.frames) (hlocals : (rest.map fun v => v.category).sum + (nativeFrameWords "java/lang/System" "arraycopy" 5 + 11) ≤ R.locals) (hdg : decode cc pc = .ok (.invokestatic idx, 3))
    (kk : ∀ (h' : Hp) (H1 : Heap) (locs1 : List Loc), f h' = some res → ab_H D cA sz h' s H1 locs1 → W p l e R s m args below meth c H1 locs1 cells slots Q (F0 m (pc + 3) ls rest)) : W p l e R s m args below meth c H locs cells slots Q (F0 m pc ls (.int n :: .int dp :: va_rf dst :: .int sp :: va_rf src :: rest)) := by
  obtain ⟨x, g1, hG⟩ := bind_out hF
  obtain ⟨⟨a, b⟩, g2, g3⟩ := map_out g1
  obtain ⟨rfl, rfl, n0, n1, hka, hkb, h1, h2, h3, h4, h5⟩ := ab_cq_some g2
  subst g3
  have hca : H[a]? = some (arrV (cA 10) n0 (fun j => .double (hpD h a j))) := by have := (S.1.2.2 a _ hka).1; rw [show ab_ct cA h a (10, n0) = .inl (cA 10, n0, .inr (.inr (.inr (.inl (hpD h a))))) by simp [ab_ct, ab_ac]] at this; exact this
  have hcb : H[b]? = some (arrV (cA 10) n1 (fun j => .double (hpD h b j))) := by have := (S.1.2.2 b _ hkb).1; rw [show ab_ct cA h b (10, n1) = .inl (cA 10, n1, .inr (.inr (.inr (.inl (hpD h b))))) by simp [ab_ct, ab_ac]] at this; exact this
  refine ab_cop0 (fun z : UInt64 => Value.double z) X S hka hkb hca hcb rfl rfl (fun _ => rfl) h1 h2 h3 h4 h5 (fun _ _ _ => trivial) (h' := cpD h a b sp.toNatClampNeg dp.toNatClampNeg n.toNatClampNeg) rfl rfl (fun q kd hq => ?_) (fun H1 hH => ?_) hlm hsize hframes hlocals hdg (fun H1 locs1 S1 => kk _ H1 locs1 hG S1)
  · have ei : hpD (cpD h a b sp.toNatClampNeg dp.toNatClampNeg n.toNatClampNeg) q = hpD h q := by simp [hpD, cpD, va_up, hq]
    simp only [ab_ct, ab_fs, ab_ac, ab_vof, ei]
    rfl
  · rw [show ab_ct cA (cpD h a b sp.toNatClampNeg dp.toNatClampNeg n.toNatClampNeg) b (10, n1) = .inl (cA 10, n1, .inr (.inr (.inr (.inl (va_cpy (hpD h a) (hpD h b) sp.toNatClampNeg dp.toNatClampNeg n.toNatClampNeg))))) by simp [ab_ct, ab_ac, hpD, cpD, va_up]]
    exact hH
end ABP
theorem ab_cI (x : Int32) : (Value.int x).category = 1 := rfl
theorem ab_cJ (x : Int64) : (Value.long x).category = 2 := rfl
theorem ab_cD (x : UInt64) : (Value.double x).category = 2 := rfl
theorem ab_cF (x : UInt32) : (Value.float x).category = 1 := rfl
theorem ab_cA (x : Nat) : (Value.ref x).category = 1 := rfl
theorem ab_entry (m : MethodId) (vs : List Value) (n : Nat) {lv : List (Nat × Value)} (h : (lg_sl vs).length ≤ n) (hl : lv_args 0 vs = lv) : ∃ ls : Array Slot, entryFrame m vs.toArray n = F0 m 0 ls [] ∧ lv_has ls n lv :=
  ⟨_, lg_entry_eq m vs n, by rw [← hl]; exact lv_entry vs h⟩
theorem ab_fopx {γ : Type} {r : UInt64} {f : UInt64 → Option γ} {res : γ} (hF : (fop r).bind f = some res) : ∃ x, r = x ∧ vf_n64 r ∧ f x = some res := ⟨r, rfl, (ab_fop hF).1, (ab_fop hF).2⟩
theorem ab_fopx32 {γ : Type} {r : UInt32} {f : UInt32 → Option γ} {res : γ} (hF : (fop32 r).bind f = some res) : ∃ x, r = x ∧ vf_n32 r ∧ f x = some res := ⟨r, rfl, (ab_fop32 hF).1, (ab_fop32 hF).2⟩
section ABL
variable {p : Program} {l : Launch} {e : Env} {R : Room} {s : State} {m : MethodId} {args : Array Value} {below : List Frame} {meth : Method} {c : Code} {H : Heap} {locs : List Loc} {cells slots : Nat} {Q : State → Prop}
variable {cc : ByteArray} {pc : Nat} {ls : Array Slot} {rest st : List Value} {D : va_G} {cA : Nat → ClassId} {sz nL : Nat} {own : String} {h h' : Hp}
variable {y : MethodName} {b : ByteArray} {n d mc ms np idx ci N : Nat} {ret : Option FieldType} {As : List Value} {a : Nat} {r : Option Nat} {T : u_T}
theorem ab_newx {γ : Type} {f : Nat → Hp → Option γ} {res : γ} {t : Nat} {C : String} (X : ab_X p s m args meth c cc nL own D cA sz) (S : ab_H D cA sz h s H locs) (hF : newo h ci f = some res) (fi : ab_FI ci 0 C T N t) (hCI : ab_CI ci T N) (hfs : ∀ j, j < N → defaultValue (ab_ty ci j) = (if ab_tc (ab_ty ci j) = 0 then .int 0 else if ab_tc (ab_ty ci j) = 1 then .double 0 else .null))
    (hlk : Cond.classLink own idx C ∈ wsL_law) (hln : Cond.instantiable C N ∈ wsL_law) (hlz : Cond.initialized C ∈ wsL_law) (hcells : cells + 1 ≤ R.cells) (hslots : slots + N ≤ R.slots) (hdg : decode cc pc = .ok (.new idx, 3))
    (kk : ∀ (a1 : Nat) (h1 : Hp) (H1 : Heap), f a1 h1 = some res → ab_H D cA sz h1 s H1 locs → W p l e R s m args below meth c H1 locs (cells + 1) (slots + N) Q (F0 m (pc + 3) ls (va_rf (some a1) :: rest))) : W p l e R s m args below meth c H locs cells slots Q (F0 m pc ls rest) :=
  ab_new X S fi hCI hfs hlk hln hlz hcells hslots hdg (fun H1 S1 => kk _ _ H1 hF S1)
theorem ab_stga {γ : Type} {t : Nat} {i : Int32} {f : Int32 → Option γ} {res : γ} (X : ab_X p s m args meth c cc nL own D cA sz) (S : ab_H D cA sz h s H locs) (hF : (stg i).bind f = some res) (hT : va_T .int t 7 ab_stg (fun q => sz ≤ q) s s.heap) (hdg : decode cc pc = .ok (.iaload, 1))
    (kk : ∀ x : Int32, f x = some res → W p l e R s m args below meth c H locs cells slots Q (F0 m (pc + 1) ls (.int x :: rest))) : W p l e R s m args below meth c H locs cells slots Q (F0 m pc ls (.int i :: .ref t :: rest)) := by
  obtain ⟨x, h1, hG⟩ := bind_out hF
  unfold stg at h1
  split at h1
  · cases h1
  · rename_i hn
    cases h1
    exact va_ti X.1 X.2.1 hT S.2 hn rfl hdg (kk _ hG)
theorem ab_callIv (X : ab_X p s m args meth c cc nL own D cA sz) (S : ab_H D cA sz h s H locs) (hM : ab_C l D cA sz y b n none d mc ms (.ref a :: As) h none h') (mi : ab_MI y b n none np) (hyn : y.name = "<init>")
    (hlm : Cond.methodLink own idx y ∈ wsL_law) (hli : Cond.instanceMethod y ∈ wsL_law) (hnp : As.length = np) (hroom : d + 1 ≤ R.frames ∧ 16 + (n + 11) + 46 * d ≤ R.locals) (hc : cells + mc ≤ R.cells ∧ slots + ms ≤ R.slots) (hsize : ls.size = nL)
    (hst : st = As.reverse ++ va_rf (some a) :: rest) (hrest : (rest.map fun v => v.category).sum ≤ 16) (hdg : decode cc pc = .ok (.invokespecial idx, 3))
    (kk : ∀ (H1 : Heap) (locs1 : List Loc), ab_H D cA sz h' s H1 locs1 → W p l e R s m args below meth c H1 locs1 (cells + mc) (slots + ms) Q (F0 m (pc + 3) ls rest)) : W p l e R s m args below meth c H locs cells slots Q (F0 m pc ls st) :=
  ab_callI X S hM mi hyn hlm hli hnp hroom hc hsize hst hrest hdg kk
theorem ab_callVxi {x : Int32} (X : ab_X p s m args meth c cc nL own D cA sz) (S : ab_H D cA sz h s H locs) (hck : ab_ck h r (ci, 0) = some a) (hM : ab_C l D cA sz y b n ret d mc ms (.ref a :: As) h (some (.int x)) h') (hcl : vwCl[ci]? = some (y.cls, T, N)) (hci : ci < 10) (mi : ab_MI y b n ret np) (hlm : Cond.methodLink own idx y ∈ wsL_law) (hli : Cond.instanceMethod y ∈ wsL_law) (hls : Cond.selects y.cls y y ∈ wsL_law) (hnp : As.length = np) (hroom : d + 1 ≤ R.frames ∧ 16 + (n + 11) + 46 * d ≤ R.locals) (hc : cells + mc ≤ R.cells ∧ slots + ms ≤ R.slots) (hsize : ls.size = nL)
    (hst : st = As.reverse ++ va_rf r :: rest) (hrest : (rest.map fun v => v.category).sum ≤ 16) (hdg : decode cc pc = .ok (.invokevirtual idx, 3))
    (kk : ∀ (H1 : Heap) (locs1 : List Loc), ab_H D cA sz h' s H1 locs1 → W p l e R s m args below meth c H1 locs1 (cells + mc) (slots + ms) Q (F0 m (pc + 3) ls (.int x :: rest))) : W p l e R s m args below meth c H locs cells slots Q (F0 m pc ls st) :=
  ab_callV X S hck hM hcl hci mi hlm hli hls hnp hroom hc hsize hst hrest hdg kk
theorem ab_callVxa {x : Option Nat} (X : ab_X p s m args meth c cc nL own D cA sz) (S : ab_H D cA sz h s H locs) (hck : ab_ck h r (ci, 0) = some a) (hM : ab_C l D cA sz y b n ret d mc ms (.ref a :: As) h (some (va_rf x)) h') (hcl : vwCl[ci]? = some (y.cls, T, N)) (hci : ci < 10) (mi : ab_MI y b n ret np) (hlm : Cond.methodLink own idx y ∈ wsL_law) (hli : Cond.instanceMethod y ∈ wsL_law) (hls : Cond.selects y.cls y y ∈ wsL_law) (hnp : As.length = np) (hroom : d + 1 ≤ R.frames ∧ 16 + (n + 11) + 46 * d ≤ R.locals) (hc : cells + mc ≤ R.cells ∧ slots + ms ≤ R.slots) (hsize : ls.size = nL)
    (hst : st = As.reverse ++ va_rf r :: rest) (hrest : (rest.map fun v => v.category).sum ≤ 16) (hdg : decode cc pc = .ok (.invokevirtual idx, 3))
    (kk : ∀ (H1 : Heap) (locs1 : List Loc), ab_H D cA sz h' s H1 locs1 → W p l e R s m args below meth c H1 locs1 (cells + mc) (slots + ms) Q (F0 m (pc + 3) ls (va_rf x :: rest))) : W p l e R s m args below meth c H locs cells slots Q (F0 m pc ls st) :=
  ab_callV X S hck hM hcl hci mi hlm hli hls hnp hroom hc hsize hst hrest hdg kk
end ABL
theorem df_0 : ∀ j, j < 9 → defaultValue (ab_ty 0 j) = (if ab_tc (ab_ty 0 j) = 0 then .int 0 else if ab_tc (ab_ty 0 j) = 1 then .double 0 else .null) := by decide +kernel
theorem df_1 : ∀ j, j < 14 → defaultValue (ab_ty 1 j) = (if ab_tc (ab_ty 1 j) = 0 then .int 0 else if ab_tc (ab_ty 1 j) = 1 then .double 0 else .null) := by decide +kernel
theorem df_2 : ∀ j, j < 2 → defaultValue (ab_ty 2 j) = (if ab_tc (ab_ty 2 j) = 0 then .int 0 else if ab_tc (ab_ty 2 j) = 1 then .double 0 else .null) := by decide +kernel
theorem df_3 : ∀ j, j < 2 → defaultValue (ab_ty 3 j) = (if ab_tc (ab_ty 3 j) = 0 then .int 0 else if ab_tc (ab_ty 3 j) = 1 then .double 0 else .null) := by decide +kernel
theorem df_4 : ∀ j, j < 12 → defaultValue (ab_ty 4 j) = (if ab_tc (ab_ty 4 j) = 0 then .int 0 else if ab_tc (ab_ty 4 j) = 1 then .double 0 else .null) := by decide +kernel
theorem df_5 : ∀ j, j < 4 → defaultValue (ab_ty 5 j) = (if ab_tc (ab_ty 5 j) = 0 then .int 0 else if ab_tc (ab_ty 5 j) = 1 then .double 0 else .null) := by decide +kernel
theorem df_6 : ∀ j, j < 14 → defaultValue (ab_ty 6 j) = (if ab_tc (ab_ty 6 j) = 0 then .int 0 else if ab_tc (ab_ty 6 j) = 1 then .double 0 else .null) := by decide +kernel
theorem df_7 : ∀ j, j < 1 → defaultValue (ab_ty 7 j) = (if ab_tc (ab_ty 7 j) = 0 then .int 0 else if ab_tc (ab_ty 7 j) = 1 then .double 0 else .null) := by decide +kernel
theorem df_8 : ∀ j, j < 11 → defaultValue (ab_ty 8 j) = (if ab_tc (ab_ty 8 j) = 0 then .int 0 else if ab_tc (ab_ty 8 j) = 1 then .double 0 else .null) := by decide +kernel
theorem df_9 : ∀ j, j < 62 → defaultValue (ab_ty 9 j) = (if ab_tc (ab_ty 9 j) = 0 then .int 0 else if ab_tc (ab_ty 9 j) = 1 then .double 0 else .null) := by decide +kernel
