/-! a sheet begun -/
def begS (S : Nat → Int32) (wide high law seed x : Int32) : Nat → Int32 :=
  comeS (setS (setS (setS (setS (setS (setS (setS (setS (setS (setS S 0 wide) 1 high) 2 law) 3 seed) 4 x) 5 0) 6 0) 7 0) 8 wide) 9 high) 0 0 0 wide high
section BegS
variable {S : Nat → Int32} {wide high law seed x : Int32}
theorem begS_0 : begS S wide high law seed x 0 = wide := by unfold begS; rw [comeS_lo (by decide) (by decide)]; rfl
theorem begS_1 : begS S wide high law seed x 1 = high := by unfold begS; rw [comeS_lo (by decide) (by decide)]; rfl
theorem begS_2 : begS S wide high law seed x 2 = law := by unfold begS; rw [comeS_lo (by decide) (by decide)]; rfl
theorem begS_3 : begS S wide high law seed x 3 = seed := by unfold begS; rw [comeS_lo (by decide) (by decide)]; rfl
theorem begS_4 : begS S wide high law seed x 4 = x := by unfold begS; rw [comeS_lo (by decide) (by decide)]; rfl
theorem begS_5 : begS S wide high law seed x 5 = 0 := by unfold begS; rw [comeS_lo (by decide) (by decide)]; rfl
theorem begS_6 : begS S wide high law seed x 6 = 1 := by unfold begS; rw [comeS_6]; rfl
theorem begS_7 : begS S wide high law seed x 7 = 0 := by unfold begS; rw [comeS_lo (by decide) (by decide)]; rfl
theorem begS_8 : begS S wide high law seed x 8 = wide := by unfold begS; rw [comeS_lo (by decide) (by decide)]; rfl
theorem begS_9 : begS S wide high law seed x 9 = high := by unfold begS; rw [comeS_lo (by decide) (by decide)]; rfl
theorem begS_10 : begS S wide high law seed x (10 + 4 * 0 + 0) = 0 := comeS_new0
theorem begS_11 : begS S wide high law seed x (10 + 4 * 0 + 1) = 0 := comeS_new1
theorem begS_12 : begS S wide high law seed x (10 + 4 * 0 + 2) = wide := comeS_new2
theorem begS_13 : begS S wide high law seed x (10 + 4 * 0 + 3) = high := comeS_new3
theorem begS_nF : nF (begS S wide high law seed x) = 1 := by unfold nF; rw [begS_6]; rfl
theorem begS_nR : nR (begS S wide high law seed x) = 0 := by unfold nR; rw [begS_7]; rfl
theorem begS_rD : rD (begS S wide high law seed x) = 0 := by unfold rD; rw [begS_5]; rfl
theorem begS_ok (hw : isN wide 2 200) (hh : isN high 2 200) (hl : isN law 0 5) (hs : isN seed 0 2147483647) (hx : isN x 0 2147483647) : SOK (begS S wide high law seed x) := by
  have w1 := hw.cl (by decide)
  have h1 := hh.cl (by decide)
  have f0 : fN (begS S wide high law seed x) 0 0 = 0 := by unfold fN; rw [begS_10]; rfl
  have f1 : fN (begS S wide high law seed x) 0 1 = 0 := by unfold fN; rw [begS_11]; rfl
  have f2 : fN (begS S wide high law seed x) 0 2 = wide.toNatClampNeg := by unfold fN; rw [begS_12]
  have f3 : fN (begS S wide high law seed x) 0 3 = high.toNatClampNeg := by unfold fN; rw [begS_13]
  refine ⟨⟨?_, ?_, ?_, ?_, ?_, ?_, ?_, ?_, ?_, ?_⟩, ?_, ?_, ?_, ?_, ?_⟩
  · rw [begS_0]; exact hw
  · rw [begS_1]; exact hh
  · rw [begS_2]; exact hl
  · rw [begS_3]; exact hs
  · rw [begS_4]; exact hx
  · rw [begS_5]; exact ⟨0, rfl, by decide, by decide⟩
  · rw [begS_6]; exact ⟨1, rfl, by decide, by decide⟩
  · rw [begS_7]; exact ⟨0, rfl, by decide, by decide⟩
  · rw [begS_8]; exact hw
  · rw [begS_9]; exact hh
  · intro f hf
    rw [begS_nF] at hf
    obtain rfl : f = 0 := by omega
    rw [begS_10, begS_11, begS_12, begS_13]
    refine ⟨⟨0, rfl, by decide, by decide⟩, ⟨0, rfl, by decide, by decide⟩, ⟨_, w1.1, by omega, w1.2.2⟩, ⟨_, h1.1, by omega, h1.2.2⟩⟩
  · intro r hr
    rw [begS_nR] at hr
    omega
  · intro f hf
    rw [begS_nF] at hf
    obtain rfl : f = 0 := by omega
    rw [f0, f1, f2, f3]
    unfold sN
    rw [begS_0, begS_1]
    omega
  · intro f g hf hg hne
    rw [begS_nF] at hf hg
    omega
  · rw [begS_nF]
    show 0 + cnt _ 0 ≤ _
    exact Nat.zero_le _
end BegS
section Begin
variable {κ : Ko}
theorem d_begin (dt : AS) {a : Nat} (ha : ly κ a = (8, 14)) (S : Nat → Int32) (wide high law seed row3 : Int32) : ∃ dt', f_Sh_begin κ a wide high (LA κ law.toNatClampNeg) seed dt = some dt' ∧ ShD κ dt' a (begS S wide high law row3 seed) ∧ gi dt' a 7 = seed ∧ Same (fun p _ => a ≤ p ∧ p < a + 5) dt dt' := by
  unfold f_Sh_begin
  have ne : ∀ (st : AS) (j k : Nat) (v : Int32), gi (ui st a j v) a k = if k = j then v else gi st a k := fun st j k v => by
    rw [gi_ui]
    by_cases h : k = j
    · rw [if_pos ⟨rfl, h⟩, if_pos h]
    · rw [if_neg (fun z => h z.2), if_neg h]
  simp only [ne, gi_ul', gi_ur']
  simp only [show ∀ (c d : Int32), (if (8 : Nat) = 11 then c else d) = d from fun c d => rfl, show ∀ (c d : Int32), (if (8 : Nat) = 12 then c else d) = d from fun c d => rfl, show ∀ (c d : Int32), (if (8 : Nat) = 10 then c else d) = d from fun c d => rfl, show ∀ (c d : Int32), (if (8 : Nat) = 9 then c else d) = d from fun c d => rfl, show ∀ (c d : Int32), (if (8 : Nat) = 8 then c else d) = c from fun c d => rfl, show ∀ (c d : Int32), (if (9 : Nat) = 11 then c else d) = d from fun c d => rfl, show ∀ (c d : Int32), (if (9 : Nat) = 12 then c else d) = d from fun c d => rfl, show ∀ (c d : Int32), (if (9 : Nat) = 10 then c else d) = d from fun c d => rfl, show ∀ (c d : Int32), (if (9 : Nat) = 9 then c else d) = c from fun c d => rfl]
  rw [d_addFacet (n := 0) _ (by rw [gi_ui, if_pos ⟨rfl, rfl⟩]; rfl) (by decide), bnd_t]
  refine ⟨_, rfl, ?_, ?_, ?_⟩
  · unfold comeD
    refine ⟨ha, ⟨?_, ?_, trivial, ?_, ?_, ?_, ?_, ?_, ?_⟩, ?_, ?_, ?_, ?_⟩
    · simp [gi_ui, gi_ul', gi_ur', begS_0]
    · simp [gi_ui, gi_ul', gi_ur', begS_1]
    · simp [gl_ui', gl_ul, begS_4]
    · simp [gi_ui, gi_ul', gi_ur', begS_5]
    · simp [gi_ui, gi_ul', gi_ur', begS_6]; rfl
    · simp [gi_ui, gi_ul', gi_ur', begS_7]
    · simp [gi_ui, gi_ul', gi_ur', begS_8]
    · simp [gi_ui, gi_ul', gi_ur', begS_9]
    · simp [gr_ui', gr_ul', gr_ur, begS_2]
    · intro f hf p hp
      rw [begS_nF] at hf
      obtain rfl : f = 0 := by omega
      match p, hp with
      | 0, _ => rw [begS_10]; simp [gi_ui]
      | 1, _ => rw [begS_11]; simp [gi_ui]
      | 2, _ => rw [begS_12]; simp [gi_ui]
      | 3, _ => rw [begS_13]; simp [gi_ui]
    · intro r hr
      rw [begS_nR] at hr
      omega
    · intro k hk hk0
      rw [begS_rD] at hk
      omega
  · unfold comeD
    simp [gi_ui, gi_ul', gi_ur']
  · unfold comeD
    have W : ∀ k, k < 5 → ∀ j : Nat, (fun (p : Nat) (_ : Nat) => a ≤ p ∧ p < a + 5) (a + k) j := fun k hk j => ⟨by omega, by omega⟩
    have W0 : ∀ j : Nat, (fun (p : Nat) (_ : Nat) => a ≤ p ∧ p < a + 5) a j := fun j => ⟨by omega, by omega⟩
    exact (((((((((((((((Same.rf _ dt).ui (W0 5)).ui (W0 6)).ur (W0 4)).ui (W0 7)).ui (W0 8)).ui (W0 9)).ul (W0 13)).ui (W0 10)).ui (W0 12)).ui (W0 11)).ui (W 1 (by decide) (4 * 0 + 0))).ui (W 1 (by decide) (4 * 0 + 1))).ui (W 1 (by decide) (4 * 0 + 2))).ui (W 1 (by decide) (4 * 0 + 3))).ui (W0 11)
/-- only the row s of the model at q is other -/
def FrR0 (q s : Nat) (rt rt' : AS) : Prop := (∀ p j, (p = q + 14 → j < 3680 * s ∨ 3680 * s + 3680 ≤ j) → gi rt' p j = gi rt p j) ∧ (∀ p j, gl rt' p j = gl rt p j) ∧ (∀ p j, gr rt' p j = gr rt p j)
theorem FrR0.rf (q s : Nat) (rt : AS) : FrR0 q s rt rt := ⟨fun _ _ _ => rfl, fun _ _ => rfl, fun _ _ => rfl⟩
theorem FrR0.tr {q s : Nat} {r1 r2 r3 : AS} (h : FrR0 q s r1 r2) (h' : FrR0 q s r2 r3) : FrR0 q s r1 r3 :=
  ⟨fun p j e => (h'.1 p j e).trans (h.1 p j e), fun p j => (h'.2.1 p j).trans (h.2.1 p j), fun p j => (h'.2.2 p j).trans (h.2.2 p j)⟩
theorem FrR.fr0 {q s : Nat} {r1 r2 : AS} (h : FrR q s r1 r2) : FrR0 q s r1 r2 := ⟨fun p j e => h.1 p j (fun z => (e z).elim Or.inl (fun y => Or.inr (Or.inl y))), h.2.1, h.2.2⟩
theorem FrR0.ui {q s j : Nat} {v : Int32} {r1 r2 : AS} (h : FrR0 q s r1 r2) (hj : j < 3680) : FrR0 q s r1 (ui r2 (q + 14) (3680 * s + j) v) :=
  h.tr ⟨fun p i e => by
    rw [gi_ui, if_neg]
    rintro ⟨z1, z2⟩
    have := e z1
    omega, fun _ _ => rfl, fun _ _ => rfl⟩
theorem r_begin {rt : AS} {q s : Nat} (hs : s < 7) (wide high law seed x : Int32) : ∃ rt', f_R_sheetBegins κ q (nI s) wide high law seed x rt = some rt' ∧ rw_ rt' q s = begS (rw_ rt q s) wide high law seed x ∧ FrR0 q s rt rt' := by
  unfold f_R_sheetBegins
  simp only [ixS0, nI_k _ 1 (y := 1) rfl, nI_k _ 2 (y := 2) rfl, nI_k _ 3 (y := 3) rfl, nI_k _ 4 (y := 4) rfl, nI_k _ 5 (y := 5) rfl, nI_k _ 6 (y := 6) rfl, nI_k _ 7 (y := 7) rfl, nI_k _ 8 (y := 8) rfl, nI_k _ 9 (y := 9) rfl]
  simp only [show ∀ k, 3680 * s + 0 + k = 3680 * s + k from fun k => rfl]
  rw [grd_t (vp_in_nI (by omega) (by decide)), grd_t (vp_in_nI (by omega) (by decide)), grd_t (vp_in_nI (by omega) (by decide)), grd_t (vp_in_nI (by omega) (by decide)), grd_t (vp_in_nI (by omega) (by decide)), grd_t (vp_in_nI (by omega) (by decide)), grd_t (vp_in_nI (by omega) (by decide)), grd_t (vp_in_nI (by omega) (by decide)), grd_t (vp_in_nI (by omega) (by decide)), grd_t (vp_in_nI (by omega) (by decide))]
  rw [nI_clamp (show 3680 * s + 0 < 2 ^ 31 by omega), nI_clamp (show 3680 * s + 1 < 2 ^ 31 by omega), nI_clamp (show 3680 * s + 2 < 2 ^ 31 by omega), nI_clamp (show 3680 * s + 3 < 2 ^ 31 by omega), nI_clamp (show 3680 * s + 4 < 2 ^ 31 by omega), nI_clamp (show 3680 * s + 5 < 2 ^ 31 by omega), nI_clamp (show 3680 * s + 6 < 2 ^ 31 by omega), nI_clamp (show 3680 * s + 7 < 2 ^ 31 by omega), nI_clamp (show 3680 * s + 8 < 2 ^ 31 by omega), nI_clamp (show 3680 * s + 9 < 2 ^ 31 by omega)]
  have fr := ((((((((((FrR0.rf q s rt).ui (j := 0) (v := wide) (by decide)).ui (j := 1) (v := high) (by decide)).ui (j := 2) (v := law) (by decide)).ui (j := 3) (v := seed) (by decide)).ui (j := 4) (v := x) (by decide)).ui (j := 5) (v := 0) (by decide)).ui (j := 6) (v := 0) (by decide)).ui (j := 7) (v := 0) (by decide)).ui (j := 8) (v := wide) (by decide)).ui (j := 9) (v := high) (by decide)
  obtain ⟨rt', h1, h2, h3⟩ := r_facetComes (κ := κ) (q := q) (s := s) (rt := ui (ui (ui (ui (ui (ui (ui (ui (ui (ui rt (q + 14) (3680 * s + 0) wide) (q + 14) (3680 * s + 1) high) (q + 14) (3680 * s + 2) law) (q + 14) (3680 * s + 3) seed) (q + 14) (3680 * s + 4) x) (q + 14) (3680 * s + 5) 0) (q + 14) (3680 * s + 6) 0) (q + 14) (3680 * s + 7) 0) (q + 14) (3680 * s + 8) wide) (q + 14) (3680 * s + 9) high) hs (n := 0) (by simp only [rw_ui]; rfl) (by decide) 0 0 wide high
  rw [h1, bnd_t]
  refine ⟨rt', rfl, ?_, fr.tr h3.fr0⟩
  rw [h2]
  simp only [rw_ui]
  rfl
end Begin
