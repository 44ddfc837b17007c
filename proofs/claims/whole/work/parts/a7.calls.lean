/-! calls that change nothing: both classes -/
theorem nulN {α : Type} (a : α) (f : Nat → α) : nul none a f = a := rfl
theorem nulS {α : Type} (c : Nat) (a : α) (f : Nat → α) : nul (some c) a f = f c := rfl
theorem iabs_n {a b : Nat} (ha : a < 2 ^ 31) (hb : b < 2 ^ 31) : iabs (nI a - nI b) = nI (if b ≤ a then a - b else b - a) := by
  unfold iabs
  by_cases h : b ≤ a
  · rw [if_pos h, nI_sub h, if_pos (nI_ge0 (by omega))]
  · have e : nI a - nI b = -(nI (b - a)) := by
      rw [← nI_sub (show a ≤ b by omega), Int32.neg_sub]
    have hn : ¬ (0 : Int32) ≤ -(nI (b - a)) := by
      rw [i32le, Int32.toInt_neg, nI_toInt (by omega), show (0 : Int32).toInt = 0 from rfl]
      have : (-((b - a : Nat) : Int)).bmod (2 ^ 32) = -((b - a : Nat) : Int) := by
        apply Int.bmod_eq_of_le <;> omega
      rw [this]
      omega
    rw [if_neg h, e, if_neg hn, Int32.neg_neg]
section Differ
variable {κ : Ko} {dt rt : AS} {a a' q s s' : Nat}
theorem q_classN (h : SR κ dt a rt q s) {k : Nat} (hk : k < 16) : ∃ c, c ≤ 200 ∧ f_Sh_facetsOfClass κ a (nI k) dt = some (nI c) ∧ f_R_classOf κ q (nI s) (nI k) rt = some (nI c) := by
  have hn := h.nf.2.1
  unfold f_Sh_facetsOfClass f_R_classOf
  refine lk2 (fun d t i => L_Sh_facetsOfClass_4 κ dt d a (nI k) t i) (fun d t i => L_R_classOf_5 κ rt d q (nI s) (nI k) t i) (fun x y => ∃ c, c ≤ 200 ∧ x = some (nI c) ∧ y = some (nI c)) (fun i t => ∃ c, c ≤ i ∧ t = nI c) (n := nF (rw_ rt q s)) ?_ ?_ ((nF (rw_ rt q s)) - 0) 0 FU (0) (by omega) (FUn (by omega)) ⟨0, Nat.le_refl _, rfl⟩
  · rintro d t ⟨c, hc, rfl⟩
    rw [L_Sh_facetsOfClass_4, L_R_classOf_5, d_nf h, if_pos (nI_le (Nat.le_refl _) (by omega)), rs6 h, bnd_t, h.nf.1, if_pos (nI_le (Nat.le_refl _) (by omega))]
    exact ⟨c, by omega, rfl, rfl⟩
  · rintro d t i hi ⟨c, hcc, rfl⟩ ih
    obtain ⟨n, n1, n2⟩ := h.areaN hi
    rw [L_Sh_facetsOfClass_4, L_R_classOf_5, d_nf h, if_neg (nI_ge hi (by omega)), rs6 h, bnd_t, h.nf.1, if_neg (nI_ge hi (by omega)), d_area h hi, r_area h hi, bnd_t, bnd_t, n2, nI_1 i]
    by_cases hc : nI n >>> ((nI k : Int32) &&& 31) = 1
    · rw [if_pos hc, if_neg ((shr_class n1 hk).mp hc)]; exact ih _ ⟨c + 1, by omega, nI_1 c⟩
    · rw [if_neg hc, if_pos (Classical.not_not.mp (fun z => hc ((shr_class n1 hk).mpr z)))]; exact ih _ ⟨c, by omega, Int32.add_zero _⟩
theorem q_apartN (h : SR κ dt a rt q s) (h' : SR κ dt a' rt q s') : ∃ c, c ≤ 3200 ∧ f_Sh_apartFrom κ a a' dt = some (nI c) ∧ f_R_differ κ q (nI s) (nI s') rt = some (nI c) := by
  unfold f_Sh_apartFrom f_R_differ
  refine lk2 (fun d t i => L_Sh_apartFrom_4 κ dt d a a' t i) (fun d t i => L_R_differ_5 κ rt d q (nI s) (nI s') t i) (fun x y => ∃ c, c ≤ 3200 ∧ x = some (nI c) ∧ y = some (nI c)) (fun i t => ∃ c, c ≤ 200 * i ∧ t = nI c) (n := 16) ?_ ?_ ((16) - 0) 0 FU (0) (by omega) (FUn (by omega)) ⟨0, Nat.le_refl _, rfl⟩
  · rintro d t ⟨c, hc, rfl⟩
    rw [L_Sh_apartFrom_4, L_R_differ_5, if_pos (show (16 : Int32) ≤ nI 16 by decide), if_pos (show (16 : Int32) ≤ nI 16 by decide)]
    exact ⟨c, by omega, rfl, rfl⟩
  · rintro d t i hi ⟨c, hc, rfl⟩ ih
    have hl : ¬ (16 : Int32) ≤ nI i := nI_ge (b := 16) hi (by decide)
    obtain ⟨v, v0, g1, g2⟩ := q_classN h hi
    obtain ⟨v', v0', g1', g2'⟩ := q_classN h' hi
    rw [L_Sh_apartFrom_4, L_R_differ_5, if_neg hl, if_neg hl, g1, g2, g1', g2', bnd_t, bnd_t, bnd_t, bnd_t, nI_1 i, iabs_n (by omega) (by omega), nI_add]
    refine ih _ ⟨_, ?_, rfl⟩
    split <;> omega
end Differ
section Pure7
variable {κ : Ko} {C : Nat → Nat} {n m : Nat} {T : Nat → Nat} {dt rt : AS}
theorem x_facet (h : GRc κ C n T m dt rt) (x y z : Int32) : Both (f_X_facet κ (kB (kt κ)) x y z dt) (f_R_facet κ (QQ κ) x y z rt) := by
  unfold f_X_facet f_R_facet
  simp only [jn_e]
  rcases h.pl x with ⟨i, hi, rfl, e1, e2⟩ | ⟨e1, e2⟩
  · have hm := h.m6
    have hS := h.sr hi
    have hF := hS.nf
    have ec : f_Sh_facetCount κ (HA κ i) dt = nI (nF (rw_ rt (QQ κ) i)) := d_nf hS
    rw [e1, e2, bnd_t, nulS, grd_t hS.1.1, if_neg (show ¬ (1 : Int32) = 0 by decide), rs6 hS, bnd_t, ec, hF.1]
    by_cases h2 : wi y.toInt64 (0 : Int64) (nI (nF (rw_ rt (QQ κ) i)) - 1).toInt64 = 0
    · rw [if_pos h2, if_pos h2]; exact Both.mk _
    · rw [if_neg h2, if_neg h2]
      obtain ⟨f, hf, rfl⟩ := wi0' (by omega) h2
      by_cases h3 : wi z.toInt64 (0 : Int64) (4 : Int64) = 0
      · rw [if_pos h3, if_pos h3]; exact Both.mk _
      · rw [if_neg h3, if_neg h3]
        obtain ⟨p, hp, rfl⟩ := wi0 (c := 4) (by decide) rfl h3
        by_cases h4 : p = 4
        · obtain ⟨v, g1, g2⟩ := q_edge hS hf
          rw [h4, if_pos (show nI 4 = 4 from rfl), if_pos (show (4 : Int32) ≤ nI 4 by decide), g1, g2, bnd_t]
          exact Both.mk _
        · rw [if_neg (show ¬ nI p = 4 from fun z => h4 ((nI_eq (b := 4) (by omega) (by decide)).mp z)), if_neg (show ¬ (4 : Int32) ≤ nI p from nI_ge (b := 4) (by omega) (by decide)), d_facet hS hf (p := p) (by omega) rfl, r_facet (by omega) (f := f) (p := p) (by omega) (by omega) rfl, bnd_t]
          exact Both.mk _
  · rw [e1, e2, bnd_t, nulN, if_pos rfl]; exact Both.mk _
theorem x_ridge (h : GRc κ C n T m dt rt) (x y z : Int32) : Both (f_X_ridge κ (kB (kt κ)) x y z dt) (f_R_ridge κ (QQ κ) x y z rt) := by
  unfold f_X_ridge f_R_ridge
  simp only [jn_e]
  rcases h.pl x with ⟨i, hi, rfl, e1, e2⟩ | ⟨e1, e2⟩
  · have hm := h.m6
    have hS := h.sr hi
    have hR := hS.nr
    have ec : f_Sh_ridgeCount κ (HA κ i) dt = nI (nR (rw_ rt (QQ κ) i)) := d_nr hS
    rw [e1, e2, bnd_t, nulS, grd_t hS.1.1, if_neg (show ¬ (1 : Int32) = 0 by decide), rs7 hS, bnd_t, ec, hR.1]
    by_cases h2 : wi y.toInt64 (0 : Int64) (nI (nR (rw_ rt (QQ κ) i)) - 1).toInt64 = 0
    · rw [if_pos h2, if_pos h2]; exact Both.mk _
    · rw [if_neg h2, if_neg h2]
      obtain ⟨r, hr, rfl⟩ := wi0' (by omega) h2
      by_cases h3 : wi z.toInt64 (0 : Int64) (6 : Int64) = 0
      · rw [if_pos h3, if_pos h3]; exact Both.mk _
      · rw [if_neg h3, if_neg h3]
        obtain ⟨p, hp, rfl⟩ := wi0 (c := 6) (by decide) rfl h3
        rw [d_ridge hS hr (p := p) (by omega) rfl, r_ridge (by omega) (f := r) (p := p) (by omega) (by omega) rfl, bnd_t]
        exact Both.mk _
  · rw [e1, e2, bnd_t, nulN, if_pos rfl]; exact Both.mk _
theorem x_length (h : GRc κ C n T m dt rt) (x y : Int32) : Both (f_X_length κ (kB (kt κ)) x y dt) (f_R_length κ (QQ κ) x y rt) := by
  unfold f_X_length f_R_length
  simp only [jn_e]
  rcases h.pl x with ⟨i, hi, rfl, e1, e2⟩ | ⟨e1, e2⟩
  · have hS := h.sr hi
    rw [e1, e2, bnd_t, nulS, grd_t hS.1.1, if_neg (show ¬ (1 : Int32) = 0 by decide)]
    by_cases h2 : wi y.toInt64 (0 : Int64) (60 : Int64) = 0
    · rw [if_pos h2, if_pos h2]; exact Both.mk _
    · obtain ⟨k, hk, g1, g2⟩ := q_cameN hS 0 y
      rw [if_neg h2, if_neg h2, g1, g2, bnd_t]; exact Both.mk _
  · rw [e1, e2, bnd_t, nulN, if_pos rfl]; exact Both.mk _
theorem x_adds (h : GRc κ C n T m dt rt) (x y : Int32) : Both (f_X_adds κ (kB (kt κ)) x y dt) (f_R_adds κ (QQ κ) x y rt) := by
  unfold f_X_adds f_R_adds
  simp only [jn_e]
  rcases h.pl x with ⟨i, hi, rfl, e1, e2⟩ | ⟨e1, e2⟩
  · have hS := h.sr hi
    rw [e1, e2, bnd_t, nulS, grd_t hS.1.1, if_neg (show ¬ (1 : Int32) = 0 by decide)]
    by_cases h2 : wi y.toInt64 (0 : Int64) (60 : Int64) = 0
    · rw [if_pos h2, if_pos h2]; exact Both.mk _
    · obtain ⟨k, hk, g1, g2⟩ := q_cameN hS y y
      rw [if_neg h2, if_neg h2, g1, g2, bnd_t]; exact Both.mk _
  · rw [e1, e2, bnd_t, nulN, if_pos rfl]; exact Both.mk _
theorem x_foretold (h : GRc κ C n T m dt rt) (x y : Int32) : Both (f_X_foretold κ (kB (kt κ)) x y dt) (f_R_foretold κ (QQ κ) x y rt) := by
  unfold f_X_foretold f_R_foretold
  simp only [jn_e]
  rcases h.pl x with ⟨i, hi, rfl, e1, e2⟩ | ⟨e1, e2⟩
  · have hm := h.m6
    have hS := h.sr hi
    have hD := hS.rd
    have ec : f_Sh_rounds κ (HA κ i) dt = nI (rD (rw_ rt (QQ κ) i)) := d_rd hS
    rw [e1, e2, bnd_t, nulS, grd_t hS.1.1, if_neg (show ¬ (1 : Int32) = 0 by decide), r_sheet (by omega) (k := 5) (y := 5) (by decide) rfl, bnd_t, ec, hD.1]
    by_cases h2 : wi y.toInt64 (1 : Int64) (nI (rD (rw_ rt (QQ κ) i))).toInt64 = 0
    · rw [if_pos h2, if_pos h2]; exact Both.mk _
    · obtain ⟨p, p1, p2, rfl⟩ := wi1 (by omega) rfl h2
      have e : f_Sh_foretoldOf κ (HA κ i) (nI p) dt = rw_ rt (QQ κ) i (3610 + p) := by
        unfold f_Sh_foretoldOf
        rw [gat_n (j := p) rfl (by omega) (by decide)]
        exact hS.1.2.2.2.2.2 p p2 (by omega)
      rw [if_neg h2, if_neg h2, e, ixT, grd_t (vp_in_nI (by omega) (by decide)), nI_clamp (by omega)]
      exact Both.mk _
  · rw [e1, e2, bnd_t, nulN, if_pos rfl]; exact Both.mk _
theorem x_miss (h : GRc κ C n T m dt rt) (x y z : Int32) : Both (f_X_miss κ (kB (kt κ)) x y z dt) (f_R_miss κ (QQ κ) x y z rt) := by
  unfold f_X_miss f_R_miss
  simp only [jn_e]
  rcases h.pl x with ⟨i, hi, rfl, e1, e2⟩ | ⟨e1, e2⟩
  · have hm := h.m6
    have hS := h.sr hi
    have hD := hS.rd
    have ec : f_Sh_rounds κ (HA κ i) dt = nI (rD (rw_ rt (QQ κ) i)) := d_rd hS
    rw [e1, e2, bnd_t, nulS, grd_t hS.1.1, if_neg (show ¬ (1 : Int32) = 0 by decide), r_sheet (by omega) (k := 5) (y := 5) (by decide) rfl, bnd_t, ec, hD.1]
    by_cases h1 : y < 1
    · rw [if_pos h1, if_pos h1]; exact Both.mk _
    · rw [if_neg h1, if_neg h1]
      by_cases h2 : z < y
      · rw [if_pos h2, if_pos h2]; exact Both.mk _
      · rw [if_neg h2, if_neg h2]
        by_cases h3 : z ≤ nI (rD (rw_ rt (QQ κ) i))
        · have g1 := Int32.not_lt.mp h1
          have g2 := Int32.not_lt.mp h2
          have g1' := g1
          have g2' := g2
          rw [i32le, show (1 : Int32).toInt = 1 from rfl] at g1
          rw [i32le] at g2
          obtain ⟨c, rfl, hc⟩ := i_nat_le (show (0 : Int32) ≤ z by rw [i32le, show (0 : Int32).toInt = 0 from rfl]; omega) h3 (by omega)
          obtain ⟨b, rfl, hb⟩ := i_nat_le (show (0 : Int32) ≤ y by rw [i32le, show (0 : Int32).toInt = 0 from rfl]; omega) g2' (by omega)
          rw [nI_toInt (by omega)] at g1
          obtain ⟨v, u1, u2⟩ := q_miss hS (j := b) (m := c) (by omega) hb hc
          rw [if_pos h3, if_pos h3, u1, u2, bnd_t]
          exact Both.mk _
        · rw [if_neg h3, if_neg h3]; exact Both.mk _
  · rw [e1, e2, bnd_t, nulN, if_pos rfl]; exact Both.mk _
theorem x_classes (h : GRc κ C n T m dt rt) (x y : Int32) : Both (f_X_classes κ (kB (kt κ)) x y dt) (f_R_classes κ (QQ κ) x y rt) := by
  unfold f_X_classes f_R_classes
  simp only [jn_e]
  rcases h.pl x with ⟨i, hi, rfl, e1, e2⟩ | ⟨e1, e2⟩
  · have hS := h.sr hi
    rw [e1, e2, bnd_t, nulS, grd_t hS.1.1, if_neg (show ¬ (1 : Int32) = 0 by decide)]
    by_cases h2 : wi y.toInt64 (0 : Int64) (15 : Int64) = 0
    · rw [if_pos h2, if_pos h2]; exact Both.mk _
    · obtain ⟨k, hk, rfl⟩ := wi0 (c := 15) (by decide) rfl h2
      obtain ⟨v, g1, g2⟩ := q_class hS (k := k) (by omega)
      rw [if_neg h2, if_neg h2, g1, g2, bnd_t]; exact Both.mk _
  · rw [e1, e2, bnd_t, nulN, if_pos rfl]; exact Both.mk _
theorem i_ne {i j : Nat} (hi : i < 6) (hj : j < 6) : (nI i = nI j) = (i = j) := propext (nI_eq (by omega) (by omega))
theorem x_apart (h : GRc κ C n T m dt rt) (x y : Int32) : Both (f_X_apart κ (kB (kt κ)) x y dt) (f_R_apart κ (QQ κ) x y rt) := by
  unfold f_X_apart f_R_apart
  simp only [jn_e]
  rcases h.pl x with ⟨i, hi, rfl, e1, e2⟩ | ⟨e1, e2⟩
  · have hS := h.sr hi
    rw [e1, e2, bnd_t, nulS, grd_t hS.1.1, if_neg (show ¬ (1 : Int32) = 0 by decide)]
    rcases h.pl y with ⟨j, hj, rfl, f1, f2⟩ | ⟨f1, f2⟩
    · have hS' := h.sr hj
      rw [f1, f2, bnd_t, nulS, grd_t hS'.1.1, if_neg (show ¬ (1 : Int32) = 0 by decide)]
      by_cases e : nI i = nI j
      · rw [if_pos e, if_pos e]; exact Both.mk _
      · obtain ⟨v, g1, g2⟩ := q_apart hS hS'
        rw [if_neg e, if_neg e, g1, g2, bnd_t]; exact Both.mk _
    · rw [f1, f2, bnd_t, nulN, if_pos rfl]; exact Both.mk _
  · rw [e1, e2, bnd_t, nulN, if_pos rfl]
    rcases h.pl y with ⟨j, hj, rfl, f1, f2⟩ | ⟨f1, f2⟩
    · rw [f1, bnd_t, nulS, grd_t (h.sr hj).1.1]; exact Both.mk _
    · rw [f1, bnd_t, nulN]; exact Both.mk _
theorem x_guess (h : GRc κ C n T m dt rt) (x y : Int32) : Both (f_X_guess κ (kB (kt κ)) x y dt) (f_R_guess κ (QQ κ) x y rt) := by
  unfold f_X_guess f_R_guess
  simp only [jn_e]
  rcases h.pl x with ⟨i, hi, rfl, e1, e2⟩ | ⟨e1, e2⟩
  · have hS := h.sr hi
    rw [e1, e2, bnd_t, nulS, grd_t hS.1.1, if_neg (show ¬ (1 : Int32) = 0 by decide)]
    rcases h.pl y with ⟨j, hj, rfl, f1, f2⟩ | ⟨f1, f2⟩
    · have hm := h.m6
      have hS' := h.sr hj
      have hD := hS'.rd
      have ec : f_Sh_rounds κ (HA κ j) dt = nI (rD (rw_ rt (QQ κ) j)) := d_rd hS'
      rw [f1, f2, bnd_t, nulS, grd_t hS'.1.1, if_neg (show ¬ (1 : Int32) = 0 by decide), r_sheet (by omega) (k := 5) (y := 5) (by decide) rfl, bnd_t, ec, hD.1]
      by_cases e : nI i = nI j
      · rw [if_pos e, if_pos e]; exact Both.mk _
      · rw [if_neg e, if_neg e]
        by_cases hd : nI (rD (rw_ rt (QQ κ) j)) = 0
        · rw [if_pos hd, if_pos hd]; exact Both.mk _
        · obtain ⟨o, g1, g2⟩ := q_all hS
          obtain ⟨v, u1, u2⟩ := q_guess hS' o (Nat.pos_of_ne_zero (fun z => hd (by rw [z]; rfl)))
          rw [if_neg hd, if_neg hd, g1, bnd_t, g2, bnd_t, u1, bnd_t, u2]
          exact Both.mk _
    · rw [f1, f2, bnd_t, nulN, if_pos rfl]; exact Both.mk _
  · rw [e1, e2, bnd_t, nulN, if_pos rfl]
    rcases h.pl y with ⟨j, hj, rfl, f1, f2⟩ | ⟨f1, f2⟩
    · rw [f1, bnd_t, nulS, grd_t (h.sr hj).1.1]; exact Both.mk _
    · rw [f1, bnd_t, nulN]; exact Both.mk _
theorem x_curve (h : GRc κ C n T m dt rt) (x y : Int32) : Both (f_X_curve κ (kB (kt κ)) x y dt) (f_R_curve κ (QQ κ) x y rt) := by
  unfold f_X_curve f_R_curve
  simp only [jn_e]
  rcases h.pl x with ⟨i, hi, rfl, e1, e2⟩ | ⟨e1, e2⟩
  · have hm := h.m6
    have hS := h.sr hi
    have hD := hS.rd
    have ec : f_Sh_rounds κ (HA κ i) dt = rw_ rt (QQ κ) i 5 := hS.1.2.1.2.2.2.2.1
    rw [e1, e2, bnd_t, nulS, grd_t hS.1.1, if_neg (show ¬ (1 : Int32) = 0 by decide), r_sheet (by omega) (k := 5) (y := 5) (by decide) rfl, bnd_t, ec]
    by_cases h2 : wi y.toInt64 (0 : Int64) (1 : Int64) = 0
    · rw [if_pos h2, if_pos h2]; exact Both.mk _
    · rw [if_neg h2, if_neg h2]
      by_cases hd : rw_ rt (QQ κ) i 5 = 0
      · rw [if_pos hd, if_pos hd]; exact Both.mk _
      · have h0 : 0 < rD (rw_ rt (QQ κ) i) := Nat.pos_of_ne_zero (fun z => hd (by rw [hD.1, z]; rfl))
        obtain ⟨c, o, g1, g2, g3⟩ := q_curve hS h0
        rw [if_neg hd, if_neg hd, g1, g2, bnd_t, bnd_t, g3 y]
        by_cases hy : y = 0
        · rw [if_pos hy, if_pos hy]; exact Both.mk _
        · rw [if_neg hy, if_neg hy]; exact Both.mk _
  · rw [e1, e2, bnd_t, nulN, if_pos rfl]; exact Both.mk _
theorem x_strength (h : GRc κ C n T m dt rt) (x y : Int32) : Both (f_X_strength κ (kB (kt κ)) x y dt) (f_R_strength κ (QQ κ) x y rt) := by
  unfold f_X_strength f_R_strength f_X_isTight
  simp only [jn_e]
  rcases h.pl x with ⟨i, hi, rfl, e1, e2⟩ | ⟨e1, e2⟩
  · have hS := h.sr hi
    rw [e1, e2, bnd_t, nulS, grd_t hS.1.1, if_neg (show ¬ (1 : Int32) = 0 by decide)]
    by_cases h2 : wi y.toInt64 (1 : Int64) (99 : Int64) = 0
    · rw [if_pos h2, if_pos h2]; exact Both.mk _
    · obtain ⟨p, p1, p2, rfl⟩ := wi1 (c := 99) (by decide) rfl h2
      obtain ⟨v, g1, g2⟩ := q_strength hS (h.law hi).sof (x := nI p) (fun z => by have := (nI_eq (b := 0) (by omega) (by decide)).mp z; omega)
      rw [if_neg h2, if_neg h2, g1, bnd_t, g2]; exact Both.mk _
  · rw [e1, e2, bnd_t, nulN, if_pos rfl]; exact Both.mk _
theorem x_of (h : GRc κ C n T m dt rt) (x y : Int32) : Both (f_X_of κ (kB (kt κ)) x y dt) (f_R_of κ (QQ κ) x y rt) := by
  unfold f_X_of f_R_of
  simp only [jn_e]
  rcases h.pl x with ⟨i, hi, rfl, e1, e2⟩ | ⟨e1, e2⟩
  · have hm := h.m6
    have hS := h.sr hi
    have hs7 : i < 7 := hS.2.2
    have s0 : f_Sh_side κ (HA κ i) 0 dt = rw_ rt (QQ κ) i 0 := hS.1.2.1.1
    have s1 : f_Sh_side κ (HA κ i) 1 dt = rw_ rt (QQ κ) i 1 := hS.1.2.1.2.1
    have s5 : f_Sh_rounds κ (HA κ i) dt = rw_ rt (QQ κ) i 5 := hS.1.2.1.2.2.2.2.1
    have s6 : f_Sh_facetCount κ (HA κ i) dt = rw_ rt (QQ κ) i 6 := hS.1.2.1.2.2.2.2.2.1
    have s7 : f_Sh_ridgeCount κ (HA κ i) dt = rw_ rt (QQ κ) i 7 := hS.1.2.1.2.2.2.2.2.2.1
    rw [e1, e2, bnd_t, nulS, grd_t hS.1.1, if_neg (show ¬ (1 : Int32) = 0 by decide), s0, s1, s5, s6, s7]
    obtain ⟨o, g1, g2⟩ := q_all hS
    obtain ⟨w, u1, u2⟩ := q_softs hS (h.law hi).sof y (fun (v9 : Nat) (v11 : Int32) (v12 : Int32) (v13 : Int32) => if v12 = 6 then some v13 else if 2 ≤ v12 then bnd (f_R_sheetOf κ v9 v11 (v12 + 3) rt) (fun v14 => some v14) else bnd (f_R_sheetOf κ v9 v11 v12 rt) (fun v15 => some v15))
    rw [g1, g2, u1, u2, bnd_t, bnd_t]
    have sh : ∀ {k : Nat} {z : Int32}, k < 10 → z = nI k → f_R_sheetOf κ (QQ κ) (nI i) z rt = some (rw_ rt (QQ κ) i k) := fun hk hz => r_sheet hs7 (by omega) hz
    by_cases h2 : wi y.toInt64 (0 : Int64) (6 : Int64) = 0
    · rw [if_pos h2]
      have hn : ∀ k, k < 7 → ¬ y = nI k := fun k hk z => by
        rw [z] at h2
        exact (wi_t (x := nI k) (lo := 0) (hi := 6)).mp h2 ⟨nI_ge0 (by omega), nI_le (b := 6) (by omega) (by decide)⟩
      rw [if_neg (show ¬ y = 0 from hn 0 (by decide)), if_neg (show ¬ y = 1 from hn 1 (by decide)), if_neg (show ¬ y = 2 from hn 2 (by decide)), if_neg (show ¬ y = 3 from hn 3 (by decide)), if_neg (show ¬ y = 4 from hn 4 (by decide)), if_neg (show ¬ y = 5 from hn 5 (by decide)), if_neg (show ¬ y = 6 from hn 6 (by decide))]
      exact Both.mk _
    · obtain ⟨p, hp, rfl⟩ := wi0 (c := 6) (by decide) rfl h2
      rw [if_neg h2]
      have hc : p = 0 ∨ p = 1 ∨ p = 2 ∨ p = 3 ∨ p = 4 ∨ p = 5 ∨ p = 6 := by omega
      rcases hc with rfl | rfl | rfl | rfl | rfl | rfl | rfl
      · rw [if_pos (show nI 0 = 0 from rfl), if_neg (show ¬ nI 0 = 5 by decide), if_neg (show ¬ nI 0 = 6 by decide), if_neg (show ¬ (2 : Int32) ≤ nI 0 by decide), sh (k := 0) (by decide) rfl, bnd_t]; exact Both.mk _
      · rw [if_neg (show ¬ nI 1 = 0 by decide), if_pos (show nI 1 = 1 from rfl), if_neg (show ¬ nI 1 = 5 by decide), if_neg (show ¬ nI 1 = 6 by decide), if_neg (show ¬ (2 : Int32) ≤ nI 1 by decide), sh (k := 1) (by decide) rfl, bnd_t]; exact Both.mk _
      · rw [if_neg (show ¬ nI 2 = 0 by decide), if_neg (show ¬ nI 2 = 1 by decide), if_pos (show nI 2 = 2 from rfl), if_neg (show ¬ nI 2 = 5 by decide), if_neg (show ¬ nI 2 = 6 by decide), if_pos (show (2 : Int32) ≤ nI 2 by decide), sh (k := 5) (z := nI 2 + 3) (by decide) (by decide), bnd_t]; exact Both.mk _
      · rw [if_neg (show ¬ nI 3 = 0 by decide), if_neg (show ¬ nI 3 = 1 by decide), if_neg (show ¬ nI 3 = 2 by decide), if_pos (show nI 3 = 3 from rfl), if_neg (show ¬ nI 3 = 5 by decide), if_neg (show ¬ nI 3 = 6 by decide), if_pos (show (2 : Int32) ≤ nI 3 by decide), sh (k := 6) (z := nI 3 + 3) (by decide) (by decide), bnd_t]; exact Both.mk _
      · rw [if_neg (show ¬ nI 4 = 0 by decide), if_neg (show ¬ nI 4 = 1 by decide), if_neg (show ¬ nI 4 = 2 by decide), if_neg (show ¬ nI 4 = 3 by decide), if_pos (show nI 4 = 4 from rfl), if_neg (show ¬ nI 4 = 5 by decide), if_neg (show ¬ nI 4 = 6 by decide), if_pos (show (2 : Int32) ≤ nI 4 by decide), sh (k := 7) (z := nI 4 + 3) (by decide) (by decide), bnd_t]; exact Both.mk _
      · rw [if_neg (show ¬ nI 5 = 0 by decide), if_neg (show ¬ nI 5 = 1 by decide), if_neg (show ¬ nI 5 = 2 by decide), if_neg (show ¬ nI 5 = 3 by decide), if_neg (show ¬ nI 5 = 4 by decide), if_pos (show nI 5 = 5 from rfl), if_pos (show nI 5 = 5 from rfl)]; exact Both.mk _
      · rw [if_neg (show ¬ nI 6 = 0 by decide), if_neg (show ¬ nI 6 = 1 by decide), if_neg (show ¬ nI 6 = 2 by decide), if_neg (show ¬ nI 6 = 3 by decide), if_neg (show ¬ nI 6 = 4 by decide), if_neg (show ¬ nI 6 = 5 by decide), if_neg (show ¬ nI 6 = 5 by decide), if_pos (show nI 6 = 6 from rfl), if_pos (show nI 6 = 6 from rfl)]; exact Both.mk _
  · rw [e1, e2, bnd_t, nulN, if_pos rfl]; exact Both.mk _
end Pure7
