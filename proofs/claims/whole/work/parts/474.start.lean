/-! ===== the start ===== -/
theorem inv_start (sz : Nat) : ∃ h1 h2, f_X8_init sz (alo (hp0 sz) (8, 0)) = some ((), h1) ∧ hpS h1 = sz + 66 ∧ f_X9_init (sz + 66) (alo h1 (9, 0)) = some ((), h2) ∧ INV 0 h2 sz := by
  obtain ⟨h1, f1, s1, X, te, rk, S8, N8, S37, N37, I0, r7⟩ := cls_new (hp0 sz)
  rw [show hpS (hp0 sz) = sz from rfl] at f1 s1 X te rk S8 N8 S37 N37 I0 r7
  obtain ⟨h2, f2, s2, H, U, Z, Ng⟩ := ref_new h1
  rw [s1] at f2 s2 H U Z Ng
  refine ⟨h1, h2, f1, s1, f2, 0, 0, 0, fun _ => 0, fun _ => 0, fun _ => 0, fun _ => 0, fun _ => false, fun _ => 0, fun _ => Zrec, fun _ => 0, ?_⟩
  have G : Gr (fun _ => False) h1 h2 := gr_ux (by rw [s1]; exact U) (by omega)
  have zI : ∀ o, o < 58 → o ≠ 4 → ∀ j, hpI h2 (sz + 66 + o) j = 0 := fun o h1 h2 j => (Z _ (by omega) (by omega)).1 (by omega) j
  have zI0 : ∀ j, hpI h2 (sz + 66) j = 0 := zI 0 (by omega) (by omega)
  have zD : ∀ o, o < 58 → ∀ j, hpD h2 (sz + 66 + o) j = 0 := fun o h1 j => (Z _ (by omega) (by omega)).2 j
  have cI : ∀ j, hpI h2 sz j = 0 := fun j => by rw [(U sz (by omega)).2.1]; exact I0 j
  obtain ⟨x1, x2, x3, x4, x5, x6, x7, x8, x9, x10, x11, x12, x13, x14, x15, x16⟩ := X
  have uR : ∀ a, a < sz + 66 → hpR h2 a = hpR h1 a := fun a ha => (U a ha).2.2.2 (fun z => z)
  have uK : ∀ a, a < sz + 66 → hpK h2 a = hpK h1 a := fun a ha => (U a ha).1
  have rz : hpR h2 sz = hpR h1 sz := uR sz (by omega)
  have XO2 : XO h2 sz := ⟨by rw [uK _ (by omega)]; exact x1, by rw [rz]; exact x2, by rw [rz]; exact x3, by rw [rz]; exact x4, by rw [rz]; exact x5, by rw [rz]; exact x6, by rw [rz]; exact x7, by rw [rz]; exact x8, by rw [rz]; exact x9, by rw [uK _ (by omega)]; exact x10, by rw [uK _ (by omega)]; exact x11, by rw [uK _ (by omega)]; exact x12, by rw [uK _ (by omega)]; exact x13, by rw [uK _ (by omega)]; exact x14, by rw [uR _ (by omega)]; exact x15, by rw [uK _ (by omega)]; exact x16, by omega⟩
  have n0 : Nm 0 := nm_0
  refine ⟨⟨XO2, fun i hi => by rw [(U _ (by omega)).2.2.1]; exact te i hi, ⟨by rw [uK _ (by omega)]; exact rk.1, by rw [(U _ (by omega)).2.2.1]; exact rk.2⟩, gr_s0 G (by omega) (fun _ _ _ z => z) S8, gr_sn G (by omega) (fun _ _ _ z => z) N8, gr_s0 G (by omega) (fun _ _ _ z => z) S37, gr_sn G (by omega) (fun _ _ _ z => z) N37, H⟩, ⟨by omega, by omega, by omega, cI 3, cI 5, cI 7, zI0 9, zI0 14, zI0 45⟩, fun l hl => by omega, fun l h1 h2 => ⟨zI 3 (by omega) (by omega) l, fun i hi => Ng _ (by omega), fun q hq => zD 9 (by omega) _⟩, ⟨⟨by omega, fun s hs => by omega⟩, fun j => ?_, ⟨by rw [uK _ (by omega)]; exact x11, fun s hs => by omega⟩, fun s h1 h2 => zI 11 (by omega) (by omega) s⟩, fun s hs he => Bool.noConfusion he, fun s hs he => Bool.noConfusion he, fun s hs => ⟨⟨fun he => Bool.noConfusion he, fun z => by omega⟩, fun z => by omega, fun _ => ?_⟩, fun p hp => ?_, fun p hp => ?_, fun l hl => by omega, fun s hs => by omega, fun s hs he => Bool.noConfusion he⟩
  · rw [zD 13 (by omega) j]; exact Or.inl n0
  · refine ⟨fun o h1 h2 => zI o (by omega) (by omega) s, zI 36 (by omega) (by omega) s, fun o h1 h2 => zD o (by omega) s, zD 37 (by omega) s, zD 38 (by omega) s, fun i hi => zD 29 (by omega) _, fun o h1 h2 j hj => zI o (by omega) (by omega) _, fun j hj => ⟨zI 34 (by omega) (by omega) _, zD 35 (by omega) _⟩, fun st => absurd st (by decide)⟩
  · rw [uR _ (by omega)]; exact r7 p
  · exact zI 23 (by omega) (by omega) p
