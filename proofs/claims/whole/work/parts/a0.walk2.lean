/-! a whole walk: both classes -/
noncomputable def wkK : Nat → Int32 → AS → Option (Int32 × AS) := fun v31 v33 s34 => grd (vp_in (v33 - 1) 200) (grd (vp_in (gi s34 (v31 + 20) (v33 - 1 : Int32).toNatClampNeg) 200) (some (gi s34 (v31 + 19) (gi s34 (v31 + 20) (v33 - 1 : Int32).toNatClampNeg : Int32).toNatClampNeg, s34)))
noncomputable def wkS (κ : Ko) : Nat → Int32 → Int32 → Int32 → AS → Option (Int32 × AS) := fun v4 v6 v7 v8 s9 => grd (vp_in v7 200) (grd (vp_in 0 200) (L_R_walks_51 κ wkK FU v4 v6 v8 (1 : Int32) (0 : Int32) (ui (ui s9 (v4 + 19) (v7 : Int32).toNatClampNeg 0) (v4 + 20) (0 : Int32).toNatClampNeg v7)))
theorem walks_e (κ : Ko) (a0 : Nat) (x1 x2 : Int32) (st : AS) : f_R_walks κ a0 x1 x2 st = bnd (f_R_sheetOf κ a0 x1 (6 : Int32) st) (fun v1 => L_R_walks_11 κ (wkS κ) FU a0 x1 x2 v1 (0 : Int32) st) := rfl
noncomputable def wkT (κ : Ko) : Nat → Int32 → AS → Option (Int32 × AS) := fun v2 v4 s5 => L_Nb_walkFrom_50 κ FU v2 (1 : Int32) (0 : Int32) (0 : Int32) (gput (gput s5 (v2 + 3) 200 v4 (0 : Int32)) (v2 + 4) 200 (0 : Int32) v4)
theorem walkFrom_e (κ : Ko) (a0 : Nat) (x1 : Int32) (st : AS) : f_Nb_walkFrom κ a0 x1 st = L_Nb_walkFrom_2 κ (wkT κ) FU a0 x1 (0 : Int32) st := rfl
section Walk2
variable {κ : Ko} {q s Z : Nat} {S : Nat → Int32}
theorem q_walkL (hk : SOK S) (hs : s < 7) : ∀ n i d d' m D Qu x dt rt, i + n = nF S → n < d → n < d' → NB dt Z S → rw_ rt q s = S → BFP (nF S) m D Qu → BFR dt rt Z q (nF S) m D Qu → i ≤ m → 1 ≤ m → (i = m → x = dv (D (Qu (m - 1)))) →
    ∃ (v : Int32) (dt' rt' : AS) (D' : Nat → Option Nat), L_Nb_walkFrom_50 κ d Z (nI m) x (nI i) dt = some (v, dt') ∧ L_R_walks_51 κ wkK d' q (nI s) (nI (nF S)) (nI m) (nI i) rt = some (v, rt') ∧ (∃ y, v = nI y ∧ y < 200) ∧ (∀ f, f < nF S → gi dt' (Z + 3) f = dv (D' f) ∧ gi rt' (q + 19) f = dv (D' f)) ∧ Same (fun p _ => wkD Z p) dt dt' ∧ Same (fun p _ => wkQ q p) rt rt' := by
  have hF := sok_6 hk
  have fin : ∀ i d d' m (D : Nat → Option Nat) (Qu : Nat → Nat) x (dt rt : AS), BFP (nF S) m D Qu → BFR dt rt Z q (nF S) m D Qu → i = m → 1 ≤ m → x = dv (D (Qu (m - 1))) → ∃ (v : Int32) (dt' rt' : AS) (D' : Nat → Option Nat), L_Nb_walkFrom_50 κ (d + 1) Z (nI m) x (nI i) dt = some (v, dt') ∧ L_R_walks_51 κ wkK (d' + 1) q (nI s) (nI (nF S)) (nI m) (nI i) rt = some (v, rt') ∧ (∃ y, v = nI y ∧ y < 200) ∧ (∀ f, f < nF S → gi dt' (Z + 3) f = dv (D' f) ∧ gi rt' (q + 19) f = dv (D' f)) ∧ Same (fun p _ => wkD Z p) dt dt' ∧ Same (fun p _ => wkQ q p) rt rt' := fun i d d' m D Qu x dt rt hP hB e h1 hx => by
    have hm := hP.le
    obtain ⟨g1, g2⟩ := hP.1 (m - 1) (by omega)
    obtain ⟨o1, o2⟩ := hB.2 (m - 1) (by omega)
    rw [e, L_Nb_walkFrom_50, L_R_walks_51, if_pos (nI_le (Nat.le_refl _) (by omega)), if_pos (nI_le (Nat.le_refl _) (by omega))]
    refine ⟨x, dt, rt, D, rfl, ?_, ?_, hB.1, Same.rf _ _, Same.rf _ _⟩
    · unfold wkK
      rw [show nI m - 1 = nI (m - 1) by rw [show m = (m - 1) + 1 by omega, nI_pred]; rfl, grd_t (vp_in_nI (by omega) (by decide)), nI_clamp (by omega), o2, grd_t (vp_in_nI (by omega) (by decide)), nI_clamp (by omega), (hB.1 _ g1).2, hx]
    · rw [hx]
      cases hD : D (Qu (m - 1)) with
      | none => exact absurd hD g2
      | some y =>
        have := hP.2.2 _ y hD
        exact ⟨y, rfl, by omega⟩
  intro n
  induction n with
  | zero =>
    intro i d d' m D Qu x dt rt hi hd hd' hN hR hP hB him h1 hx
    obtain ⟨d, rfl⟩ : ∃ z, d = z + 1 := ⟨d - 1, by omega⟩
    obtain ⟨d', rfl⟩ : ∃ z, d' = z + 1 := ⟨d' - 1, by omega⟩
    have hm := hP.le
    exact fin i d d' m D Qu x dt rt hP hB (by omega) h1 (hx (by omega))
  | succ n ih =>
    intro i d d' m D Qu x dt rt hi hd hd' hN hR hP hB him h1 hx
    obtain ⟨d, rfl⟩ : ∃ z, d = z + 1 := ⟨d - 1, by omega⟩
    obtain ⟨d', rfl⟩ : ∃ z, d' = z + 1 := ⟨d' - 1, by omega⟩
    have hm := hP.le
    by_cases e : i = m
    · exact fin i d d' m D Qu x dt rt hP hB e h1 (hx e)
    · obtain ⟨g1, g2⟩ := hP.1 i (by omega)
      obtain ⟨o1, o2⟩ := hB.2 i (by omega)
      cases hD : D (Qu i) with
      | none => exact absurd hD g2
      | some dh =>
        have hst := hN.2.1 (Qu i) (by omega)
        obtain ⟨m', D', Qu', d2, r2, z1, z2, z3, z4, z5, z6, z7, z8, z9⟩ := q_nb (κ := κ) (q := q) (s := s) (Z := Z) hk hs g1 (i := i) (dh := dh) (fun (v8 : Nat) (v10 : Int32) (v11 : Int32) (v12 : Int32) (s13 : AS) => L_Nb_walkFrom_50 κ d v8 v10 v11 (v12 + 1) s13) (fun (v23 : Nat) (v25 : Int32) (v26 : Int32) (v27 : Int32) (v28 : Int32) (s29 : AS) => L_R_walks_51 κ wkK d' v23 v25 v26 v27 (v28 + 1) s29) (nF S) 0 FU FU m D Qu dt rt (by omega) (FUn (by omega)) (FUn (by omega)) hN hR hP hB (by omega) rfl hD
        obtain ⟨v, d3, r3, D3, y1, y2, y3, y4, y5, y6⟩ := ih (i + 1) d d' m' D' Qu' (nI dh) d2 r2 (by omega) (by omega) (by omega) (hN.fr z8) (rw_fr hR z9 (fun j z => by unfold wkQ at z; omega)) z3 z4 (by omega) (by omega) (fun e2 => by
          rw [show m' - 1 = i by omega, z6, z7]
          rfl)
        refine ⟨v, d3, r3, D3, ?_, ?_, y3, y4, z8.tr y5, z9.tr y6⟩
        · rw [L_Nb_walkFrom_50, if_neg (nI_ge (by omega) (by omega)), if_neg (show ¬ (200 : Int32) ≤ nI i from nI_ge (b := 200) (by omega) (by decide)), gat_n (j := i) rfl (by omega) (by decide), o1, gat_n (j := Qu i) rfl (by omega) (by decide), gat_n (j := Qu i) rfl (by omega) (by decide), (hB.1 _ g1).1, hD, hst]
          refine Eq.trans z1 ?_
          show L_Nb_walkFrom_50 κ d Z (nI m') (nI dh) (nI i + 1) d2 = _
          rw [nI_1]
          exact y1
        · rw [L_R_walks_51, if_neg (nI_ge (by omega) (by omega))]
          refine Eq.trans z2 ?_
          show L_R_walks_51 κ wkK d' q (nI s) (nI (nF S)) (nI m') (nI i + 1) r2 = _
          rw [nI_1]
          exact y2
theorem d_far0 (hF : nF S ≤ 200) {dt : AS} (h4 : gi dt Z 4 = nI (nF S)) (x : Int32) : ∃ dt', L_Nb_walkFrom_2 κ (wkT κ) FU Z x 0 dt = wkT κ Z x dt' ∧ (∀ f, f < nF S → gi dt' (Z + 3) f = -1) ∧ Same (fun p _ => wkD Z p) dt dt' := by
  refine lk1 (fun d t i => L_Nb_walkFrom_2 κ (wkT κ) d Z x i t) (fun z => ∃ dt', z = wkT κ Z x dt' ∧ (∀ f, f < nF S → gi dt' (Z + 3) f = -1) ∧ Same (fun p _ => wkD Z p) dt dt') (fun i t => (∀ f, f < i → gi t (Z + 3) f = -1) ∧ Same (fun p _ => wkD Z p) dt t) (n := nF S) ?_ ?_ (nF S) 0 FU dt (by omega) (FUn (by omega)) ⟨fun _ z => absurd z (Nat.not_lt_zero _), Same.rf _ _⟩
  · rintro d t ⟨g1, g2⟩
    rw [L_Nb_walkFrom_2, (g2 Z 4 (fun z => by unfold wkD at z; omega)).1, h4, if_pos (nI_le (Nat.le_refl _) (by omega))]
    exact ⟨t, rfl, g1, g2⟩
  · rintro d t i hi ⟨g1, g2⟩ ih
    rw [L_Nb_walkFrom_2, (g2 Z 4 (fun z => by unfold wkD at z; omega)).1, h4, if_neg (nI_ge hi (by omega)), gput_n (j := i) rfl (by omega) (by decide), nI_1]
    refine ih _ ⟨fun j hj => ?_, g2.ui (Or.inl rfl)⟩
    rw [gi_ui]
    by_cases e : j = i
    · rw [if_pos ⟨rfl, e⟩]
    · rw [if_neg (fun z => e z.2)]; exact g1 j (by omega)
theorem r_far0 (hF : nF S ≤ 200) {rt : AS} (x y : Int32) : ∃ rt', L_R_walks_11 κ (wkS κ) FU q x y (nI (nF S)) 0 rt = wkS κ q x y (nI (nF S)) rt' ∧ (∀ f, f < nF S → gi rt' (q + 19) f = -1) ∧ Same (fun p _ => wkQ q p) rt rt' := by
  refine lk1 (fun d t i => L_R_walks_11 κ (wkS κ) d q x y (nI (nF S)) i t) (fun z => ∃ rt', z = wkS κ q x y (nI (nF S)) rt' ∧ (∀ f, f < nF S → gi rt' (q + 19) f = -1) ∧ Same (fun p _ => wkQ q p) rt rt') (fun i t => (∀ f, f < i → gi t (q + 19) f = -1) ∧ Same (fun p _ => wkQ q p) rt t) (n := nF S) ?_ ?_ (nF S) 0 FU rt (by omega) (FUn (by omega)) ⟨fun _ z => absurd z (Nat.not_lt_zero _), Same.rf _ _⟩
  · rintro d t ⟨g1, g2⟩
    rw [L_R_walks_11, if_pos (nI_le (Nat.le_refl _) (by omega))]
    exact ⟨t, rfl, g1, g2⟩
  · rintro d t i hi ⟨g1, g2⟩ ih
    rw [L_R_walks_11, if_neg (nI_ge hi (by omega)), grd_t (vp_in_nI (by omega) (by decide)), nI_clamp (by omega), nI_1]
    refine ih _ ⟨fun j hj => ?_, g2.ui (Or.inl rfl)⟩
    rw [gi_ui]
    by_cases e : j = i
    · rw [if_pos ⟨rfl, e⟩]
    · rw [if_neg (fun z => e z.2)]; exact g1 j (by omega)
/-- from one facet to all -/
theorem q_walk (hk : SOK S) (hs : s < 7) {dt rt : AS} (hN : NB dt Z S) (hR : rw_ rt q s = S) {f : Nat} (hf : f < nF S) :
    ∃ (v : Int32) (dt' rt' : AS) (D' : Nat → Option Nat), f_Nb_walkFrom κ Z (nI f) dt = some (v, dt') ∧ f_R_walks κ q (nI s) (nI f) rt = some (v, rt') ∧ (∃ y, v = nI y ∧ y < 200) ∧ (∀ g, g < nF S → gi dt' (Z + 3) g = dv (D' g) ∧ gi rt' (q + 19) g = dv (D' g)) ∧ Same (fun p _ => wkD Z p) dt dt' ∧ Same (fun p _ => wkQ q p) rt rt' := by
  have hF := sok_6 hk
  obtain ⟨d1, a1, a2, a3⟩ := d_far0 (κ := κ) (Z := Z) hF.2.1 hN.1 (nI f)
  obtain ⟨r1, b1', b2, b3⟩ := r_far0 (κ := κ) (q := q) (rt := rt) hF.2.1 (nI s) (nI f)
  have w1 : Same (fun p _ => wkD Z p) dt (ui (ui d1 (Z + 3) f 0) (Z + 4) 0 (nI f)) := (a3.ui (Or.inl rfl)).ui (Or.inr rfl)
  have w2 : Same (fun p _ => wkQ q p) rt (ui (ui r1 (q + 19) f 0) (q + 20) 0 (nI f)) := (b3.ui (Or.inl rfl)).ui (Or.inr rfl)
  have hP : BFP (nF S) 1 (updD (fun _ => none) f 0) (fun _ => f) := by
    refine ⟨fun i _ => ⟨hf, by unfold updD; rw [if_pos rfl]; exact fun z => by cases z⟩, ?_, fun g e hg => ?_⟩
    · have : (fun g => (updD (fun _ => none) f 0 g).isSome) = fun i => decide (i = f) := by
        funext g
        unfold updD
        by_cases e : g = f
        · rw [if_pos e, decide_eq_true e]; rfl
        · rw [if_neg e, decide_eq_false e]; rfl
      rw [this, cnt_one hf]
    · unfold updD at hg
      by_cases e2 : g = f
      · rw [if_pos e2] at hg
        have := Option.some.inj hg
        omega
      · rw [if_neg e2] at hg
        cases hg
  have hB : BFR (ui (ui d1 (Z + 3) f 0) (Z + 4) 0 (nI f)) (ui (ui r1 (q + 19) f 0) (q + 20) 0 (nI f)) Z q (nF S) 1 (updD (fun _ => none) f 0) (fun _ => f) := by
    refine ⟨fun g hg => ?_, fun i hi => ?_⟩
    · rw [ui2a _ _ _ _ _ _ _ _ (show Z + 3 ≠ Z + 4 by omega), ui2a _ _ _ _ _ _ _ _ (show q + 19 ≠ q + 20 by omega)]
      unfold updD
      by_cases e : g = f
      · rw [if_pos e, if_pos e, if_pos e]; exact ⟨rfl, rfl⟩
      · rw [if_neg e, if_neg e, if_neg e]; exact ⟨a2 g hg, b2 g hg⟩
    · rw [ui2b _ _ _ _ _ _ _ _ (show Z + 3 ≠ Z + 4 by omega), ui2b _ _ _ _ _ _ _ _ (show q + 19 ≠ q + 20 by omega), if_pos (by omega), if_pos (by omega)]
      exact ⟨rfl, rfl⟩
  obtain ⟨v, d2, r2, D', z1, z2, z3, z4, z5, z6⟩ := q_walkL (κ := κ) (q := q) (s := s) hk hs (nF S) 0 FU FU 1 _ _ 0 _ _ (by omega) (FUn (by omega)) (FUn (by omega)) (hN.fr w1) (rw_fr hR w2 (fun j z => by unfold wkQ at z; omega)) hP hB (by omega) (by omega) (fun e => by omega)
  refine ⟨v, d2, r2, D', ?_, ?_, z3, z4, w1.tr z5, w2.tr z6⟩
  · rw [walkFrom_e, a1]
    unfold wkT
    rw [gput_n (j := f) rfl (by omega) (by decide), gput_n (i := 0) (j := 0) rfl (by omega) (by decide)]
    exact z1
  · rw [walks_e, rs_any (k := 6) (y := 6) hR hs (by decide) rfl, bnd_t, hF.1, b1']
    unfold wkS
    rw [grd_t (vp_in_nI (by omega) (by decide)), grd_t (show vp_in 0 200 from vp_in_nI (n := 0) (by decide) (by decide)), nI_clamp (by omega)]
    exact z2
end Walk2
