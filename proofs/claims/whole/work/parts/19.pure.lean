/-! both classes' answers of one sheet -/
section Pure
variable {κ : Ko} {dt rt : AS} {a q s : Nat}
theorem wi_n {x lo hi : Nat} (h1 : lo ≤ x) (h2 : x ≤ hi) (h3 : hi < 2 ^ 31) : wi (nI x).toInt64 (nI lo).toInt64 (nI hi).toInt64 = 1 := by
  rw [wi_i, if_pos ⟨nI_le h1 (by omega), nI_le h2 h3⟩]
theorem wi_t {x lo hi : Int32} : wi x.toInt64 lo.toInt64 hi.toInt64 = 0 ↔ ¬ (lo ≤ x ∧ x ≤ hi) := by
  rw [wi_i]
  by_cases h : lo ≤ x ∧ x ≤ hi
  · rw [if_pos h]; exact ⟨fun z => absurd z (by decide), fun z => absurd h z⟩
  · rw [if_neg h]; exact ⟨fun _ => h, fun _ => rfl⟩
def SR.ridge (h : SR κ dt a rt q s) {r : Nat} (hr : r < nR (rw_ rt q s)) := h.2.1.2.2.1 r hr
def SR.facet (h : SR κ dt a rt q s) {f : Nat} (hf : f < nF (rw_ rt q s)) := h.2.1.2.1 f hf
/-- the length of all -/
theorem q_all (h : SR κ dt a rt q s) : Both (f_Sh_lengthOfAll κ a dt) (f_R_together κ q (nI s) rt) := by
  have hn := h.nr.2
  have : Both (f_Sh_lengthOfRounds κ a 0 60 dt) (f_R_together κ q (nI s) rt) := by
    unfold f_Sh_lengthOfRounds f_R_together
    refine lk2 (fun d s' i => L_Sh_lengthOfRounds_5 κ dt d a 0 60 s' i) (fun d s' i => L_R_together_4 κ rt d q (nI s) s' i) Both (fun _ _ => True) (n := nR (rw_ rt q s)) ?_ ?_ (nR (rw_ rt q s)) 0 FU 0 (by omega) (FUn (by omega)) trivial
    · intro d t _
      rw [L_Sh_lengthOfRounds_5, L_R_together_4, d_nr h, if_pos (nI_le (Nat.le_refl _) (by omega)), rs7 h, bnd_t, h.nr.1, if_pos (nI_le (Nat.le_refl _) (by omega))]
      exact Both.mk _
    · intro d t i hi _ ih
      have h4 := (h.ridge hi).2.2.2.2.1.cl (by decide)
      have hw : wi (rw_ rt q s (810 + 7 * i + 4)).toInt64 (0 : Int32).toInt64 (60 : Int32).toInt64 = 1 := by
        rw [h4.1]; exact wi_n (Nat.zero_le _) h4.2.2 (by decide)
      rw [L_Sh_lengthOfRounds_5, L_R_together_4, d_nr h, if_neg (nI_ge hi (by omega)), rs7 h, bnd_t, h.nr.1, if_neg (nI_ge hi (by omega)), dr4 h hi, bnd_t, d_len h hi, bnd_t, r_len h hi, bnd_t, hw, if_neg (by decide), nI_1]
      exact ih _ trivial
  obtain ⟨v, h1, h2⟩ := this
  refine ⟨v, ?_, h2⟩
  unfold f_Sh_lengthOfAll
  rw [h1, bnd_t]
/-- what was pressed in one round -/
theorem q_pressed (h : SR κ dt a rt q s) (x : Int32) : Both (f_Sh_pressedIn κ a x dt) (f_R_cameIn κ q (nI s) x x 1 rt) := by
  have hn := h.nr.2
  unfold f_Sh_pressedIn f_R_cameIn
  refine lk2 (fun d s' i => L_Sh_pressedIn_4 κ dt d a x s' i) (fun d s' i => L_R_cameIn_6 κ rt d q (nI s) x x 1 s' i) Both (fun _ _ => True) (n := nR (rw_ rt q s)) ?_ ?_ (nR (rw_ rt q s)) 0 FU 0 (by omega) (FUn (by omega)) trivial
  · intro d t _
    rw [L_Sh_pressedIn_4, L_R_cameIn_6, d_nr h, if_pos (nI_le (Nat.le_refl _) (by omega)), rs7 h, bnd_t, h.nr.1, if_pos (nI_le (Nat.le_refl _) (by omega))]
    exact Both.mk _
  · intro d t i hi _ ih
    rw [L_Sh_pressedIn_4, L_R_cameIn_6, d_nr h, if_neg (nI_ge hi (by omega)), rs7 h, bnd_t, h.nr.1, if_neg (nI_ge hi (by omega))]
    simp only [dr4 h hi, dr5 h hi, rr4 h hi, rr5 h hi, d_len h hi, r_len h hi, bnd_t, jn_e, nI_1, wi_t]
    by_cases hw : rw_ rt q s (810 + 7 * i + 4) = x
    · have hx : x ≤ rw_ rt q s (810 + 7 * i + 4) ∧ rw_ rt q s (810 + 7 * i + 4) ≤ x := ⟨by rw [hw]; exact Int32.le_refl _, by rw [hw]; exact Int32.le_refl _⟩
      by_cases hk : rw_ rt q s (810 + 7 * i + 5) = 0
      · simp only [hw, hk, Int32.le_refl, and_self, not_true_eq_false, if_true, if_false, show ¬ (1 : Int32) = 0 by decide, if_neg]
        exact ih _ trivial
      · simp only [hw, hk, Int32.le_refl, and_self, not_true_eq_false, if_true, if_false, show ¬ (1 : Int32) = 0 by decide, if_neg]
        exact ih _ trivial
    · have hx : ¬ (x ≤ rw_ rt q s (810 + 7 * i + 4) ∧ rw_ rt q s (810 + 7 * i + 4) ≤ x) := fun z => hw (Int32.le_antisymm z.2 z.1)
      simp only [hw, hx, not_false_eq_true, if_true, if_false]
      exact ih _ trivial
/-! a facet's numbers -/
theorem d_area (h : SR κ dt a rt q s) {f : Nat} (hf : f < nF (rw_ rt q s)) : f_Sh_areaOf κ a (nI f) dt = some (rw_ rt q s (10 + 4 * f + 2) * rw_ rt q s (10 + 4 * f + 3)) := by
  unfold f_Sh_areaOf
  rw [df2 h hf, bnd_t, df3 h hf, bnd_t]
theorem r_area (h : SR κ dt a rt q s) {f : Nat} (hf : f < nF (rw_ rt q s)) : f_R_areaOf κ q (nI s) (nI f) rt = some (rw_ rt q s (10 + 4 * f + 2) * rw_ rt q s (10 + 4 * f + 3)) := by
  unfold f_R_areaOf
  rw [rf2 h hf, bnd_t, rf3 h hf, bnd_t]
theorem d_long (h : SR κ dt a rt q s) {f : Nat} (hf : f < nF (rw_ rt q s)) : f_Sh_longOf κ a (nI f) dt = some (imax (rw_ rt q s (10 + 4 * f + 2)) (rw_ rt q s (10 + 4 * f + 3))) := by
  unfold f_Sh_longOf
  rw [df2 h hf, bnd_t, df3 h hf, bnd_t]
theorem r_long (h : SR κ dt a rt q s) {f : Nat} (hf : f < nF (rw_ rt q s)) : f_R_longSide κ q (nI s) (nI f) rt = some (imax (rw_ rt q s (10 + 4 * f + 2)) (rw_ rt q s (10 + 4 * f + 3))) := by
  unfold f_R_longSide imax
  simp only [rf2 h hf, rf3 h hf, bnd_t]
  split <;> rfl
theorem d_short (h : SR κ dt a rt q s) {f : Nat} (hf : f < nF (rw_ rt q s)) : f_Sh_shortOf κ a (nI f) dt = some (imin (rw_ rt q s (10 + 4 * f + 2)) (rw_ rt q s (10 + 4 * f + 3))) := by
  unfold f_Sh_shortOf
  rw [df2 h hf, bnd_t, df3 h hf, bnd_t]
theorem imin_le (x y : Int32) : imin x y = if y ≤ x then y else x := by
  unfold imin
  by_cases h : y < x
  · rw [if_pos h, if_pos (Int32.le_of_lt h)]
  · rw [if_neg h]
    by_cases h2 : y ≤ x
    · rw [if_pos h2]; exact Int32.le_antisymm (Int32.not_lt.mp h) h2
    · rw [if_neg h2]
theorem r_short (h : SR κ dt a rt q s) {f : Nat} (hf : f < nF (rw_ rt q s)) : f_R_shortSide κ q (nI s) (nI f) rt = some (imin (rw_ rt q s (10 + 4 * f + 2)) (rw_ rt q s (10 + 4 * f + 3))) := by
  unfold f_R_shortSide
  rw [imin_le]
  simp only [rf2 h hf, rf3 h hf, bnd_t]
  split <;> rfl
def wayS (S : Nat → Int32) (f : Nat) : Int32 := if S (10 + 4 * f + 2) < S (10 + 4 * f + 3) then 1 else 0
theorem d_way (h : SR κ dt a rt q s) {f : Nat} (hf : f < nF (rw_ rt q s)) : f_Sh_wayOf κ a (nI f) dt = some (wayS (rw_ rt q s) f) := by
  unfold f_Sh_wayOf wayS
  rw [df2 h hf, bnd_t, df3 h hf, bnd_t]
theorem r_way (h : SR κ dt a rt q s) {f : Nat} (hf : f < nF (rw_ rt q s)) : f_R_wayOf κ q (nI s) (nI f) rt = some (wayS (rw_ rt q s) f) := by
  unfold f_R_wayOf wayS
  rw [rf2 h hf, bnd_t, rf3 h hf, bnd_t]
theorem q_edge (h : SR κ dt a rt q s) {f : Nat} (hf : f < nF (rw_ rt q s)) : Both (f_Sh_edgeOf κ a (nI f) dt) (f_R_edgeOf κ q (nI s) (nI f) rt) := by
  unfold f_Sh_edgeOf f_R_edgeOf
  simp only [df0 h hf, df1 h hf, df2 h hf, df3 h hf, rf0 h hf, rf1 h hf, rf2 h hf, rf3 h hf, rs0 h, rs1 h, bnd_t, h.1.2.1.1, h.1.2.1.2.1]
  exact Both.mk _
/-- facets of a size class -/
theorem shr_class {n k : Nat} (hn : n ≤ 40000) (hk : k < 16) : (nI n >>> ((nI k : Int32) &&& 31) = 1) ↔ ¬ (wi (nI n).toInt64 ((1 : Int32) <<< ((nI k : Int32) &&& 31)).toInt64 (((2 : Int32) <<< ((nI k : Int32) &&& 31)) - 1).toInt64 = 0) := by
  have hs := (show ∀ k, k < 16 → (((nI k : Int32) &&& 31).toBitVec.smod 32).toNat = k by decide +kernel) k hk
  have h2 : 2 ^ k ≤ 32768 := (show ∀ k, k < 16 → 2 ^ k ≤ 32768 by decide) k hk
  have h0 : 0 < 2 ^ k := Nat.pos_of_ne_zero (by simp)
  rw [pk_shrN (by omega) _ k hs, show (1 : Int32) = nI 1 from rfl, pk_shlN _ k hs (by omega), show (2 : Int32) = nI 2 from rfl, pk_shlN _ k hs (by omega), show 2 * 2 ^ k = (2 * 2 ^ k - 1) + 1 by omega, show nI 1 = (1 : Int32) from rfl, nI_pred, wi_t, show (1 : Int32) = nI 1 from rfl, nI_leI (by omega) (by omega), nI_leI (by omega) (by omega), Nat.one_mul]
  have hd : n / 2 ^ k ≤ n := Nat.div_le_self _ _
  rw [nI_eq (by omega) (by decide), Classical.not_not]
  have hm := Nat.div_add_mod n (2 ^ k)
  have hl := Nat.mod_lt n h0
  constructor
  · intro e
    rw [e] at hm
    omega
  · rintro ⟨g1, g2⟩
    exact Nat.div_eq_of_lt_le (by omega) (by omega)
theorem SR.areaN (h : SR κ dt a rt q s) {f : Nat} (hf : f < nF (rw_ rt q s)) : ∃ n, n ≤ 40000 ∧ rw_ rt q s (10 + 4 * f + 2) * rw_ rt q s (10 + 4 * f + 3) = nI n := by
  obtain ⟨-, -, ⟨w, hw, -, w2⟩, ⟨g, hg, -, g2⟩⟩ := h.facet hf
  exact ⟨w * g, Nat.mul_le_mul w2 g2, by rw [hw, hg, nI_mul]⟩
theorem q_class (h : SR κ dt a rt q s) {k : Nat} (hk : k < 16) : Both (f_Sh_facetsOfClass κ a (nI k) dt) (f_R_classOf κ q (nI s) (nI k) rt) := by
  have hn := h.nf.2.1
  unfold f_Sh_facetsOfClass f_R_classOf
  refine lk2 (fun d t i => L_Sh_facetsOfClass_4 κ dt d a (nI k) t i) (fun d t i => L_R_classOf_5 κ rt d q (nI s) (nI k) t i) Both (fun _ _ => True) (n := nF (rw_ rt q s)) ?_ ?_ ((nF (rw_ rt q s)) - 0) 0 FU (0) (by omega) (FUn (by omega)) trivial
  · intro d t _
    rw [L_Sh_facetsOfClass_4, L_R_classOf_5, d_nf h, if_pos (nI_le (Nat.le_refl _) (by omega)), rs6 h, bnd_t, h.nf.1, if_pos (nI_le (Nat.le_refl _) (by omega))]
    exact Both.mk _
  · intro d t i hi _ ih
    obtain ⟨n, n1, n2⟩ := h.areaN hi
    rw [L_Sh_facetsOfClass_4, L_R_classOf_5, d_nf h, if_neg (nI_ge hi (by omega)), rs6 h, bnd_t, h.nf.1, if_neg (nI_ge hi (by omega)), d_area h hi, r_area h hi, bnd_t, bnd_t, n2, nI_1]
    by_cases hc : nI n >>> ((nI k : Int32) &&& 31) = 1
    · rw [if_pos hc, if_neg ((shr_class n1 hk).mp hc)]; exact ih _ trivial
    · rw [if_neg hc, if_pos (Classical.not_not.mp (fun z => hc ((shr_class n1 hk).mpr z)))]; exact ih _ trivial
/-- how two sheets' sizes differ -/
theorem q_apart {a' s' : Nat} (h : SR κ dt a rt q s) (h' : SR κ dt a' rt q s') : Both (f_Sh_apartFrom κ a a' dt) (f_R_differ κ q (nI s) (nI s') rt) := by
  unfold f_Sh_apartFrom f_R_differ
  refine lk2 (fun d t i => L_Sh_apartFrom_4 κ dt d a a' t i) (fun d t i => L_R_differ_5 κ rt d q (nI s) (nI s') t i) Both (fun _ _ => True) (n := 16) ?_ ?_ ((16) - 0) 0 FU (0) (by omega) (FUn (by omega)) trivial
  · intro d t _
    rw [L_Sh_apartFrom_4, L_R_differ_5, if_pos (show (16 : Int32) ≤ nI 16 by decide), if_pos (show (16 : Int32) ≤ nI 16 by decide)]
    exact Both.mk _
  · intro d t i hi _ ih
    have hl : ¬ (16 : Int32) ≤ nI i := nI_ge (b := 16) hi (by decide)
    obtain ⟨v, g1, g2⟩ := q_class h hi
    obtain ⟨v', g1', g2'⟩ := q_class h' hi
    rw [L_Sh_apartFrom_4, L_R_differ_5, if_neg hl, if_neg hl, g1, g2, g1', g2', bnd_t, bnd_t, bnd_t, bnd_t, nI_1]
    exact ih _ trivial
/-! soft ridges -/
def softS (κ : Ko) (dt : AS) (S : Nat → Int32) (r : Nat) : Int32 := if S (810 + 7 * r + 6) < gi dt (LA κ (S 2).toNatClampNeg) 6 then 0 else 1
theorem d_soft (h : SR κ dt a rt q s) {r : Nat} (hr : r < nR (rw_ rt q s)) : f_Sh_isSoft κ a (nI r) dt = some (softS κ dt (rw_ rt q s) r) := by
  have hl := h.law
  unfold f_Sh_isSoft f_Lw_isSoft softS
  rw [h.1.2.2.1, bnd_t, grd_t (LA_ly (by omega)), dr6 h hr, bnd_t, grd_t]
  split
  · exact Or.inl rfl
  · exact Or.inr rfl
theorem r_soft (h : SR κ dt a rt q s) (hs : gi rt (q + 7) (rw_ rt q s 2).toNatClampNeg = gi dt (LA κ (rw_ rt q s 2).toNatClampNeg) 6) {r : Nat} (hr : r < nR (rw_ rt q s)) : f_R_isSoft κ q (nI s) (nI r) rt = some (softS κ dt (rw_ rt q s) r) := by
  have hl := h.law
  unfold f_R_isSoft softS
  rw [rr6 h hr, bnd_t, rs2 h, bnd_t, grd_t (by rw [hl.1]; exact vp_in_nI (by omega) (by decide)), hs]
  split <;> rfl
/-- same at the end of an ended sheet's edge -/
theorem q_edgeEnd (h : SR κ dt a rt q s) {r e : Nat} (hr : r < nR (rw_ rt q s)) (he : e < 2) : Both (f_Sh_endsAtEdge κ a (nI r) (nI (2 + e)) dt) (f_R_isEdgeEnd κ q (nI s) (nI r) (nI e) rt) := by
  have hn := h.nr.2
  obtain ⟨w, hw, -, hw2⟩ := (h.ridge hr).1
  have e1 : (2 : Int32) + nI e = nI (2 + e) := by rw [show (2 : Int32) = nI 2 from rfl, nI_add]
  unfold f_Sh_endsAtEdge f_R_isEdgeEnd
  simp only [dr0 h hr, bnd_t, d_ridge h hr (p := 2 + e) (by omega) rfl, e1, r_ridge h.2.2 (Nat.lt_of_lt_of_le hr hn) (p := 2 + e) (by omega) rfl, rr0 h hr, jn_e, hw]
  have hc : w = 0 ∨ w = 1 := by omega
  rcases hc with rfl | rfl
  · rw [show (1 : Int32) - nI 0 = 1 by decide, rs1 h, bnd_t, if_pos (show nI 0 = 0 from rfl), h.1.2.1.2.1]
    split
    · exact Both.mk _
    · split <;> exact Both.mk _
  · rw [show (1 : Int32) - nI 1 = 0 by decide, rs0 h, bnd_t, if_neg (show ¬ nI 1 = 0 by decide), h.1.2.1.1]
    split
    · exact Both.mk _
    · split <;> exact Both.mk _
/-- one ridge through another one's end -/
theorem q_through (h : SR κ dt a rt q s) {r r' e : Nat} (hr : r < nR (rw_ rt q s)) (hr' : r' < nR (rw_ rt q s)) (he : e < 2) : Both (f_Sh_goesThroughEnd κ a (nI r) (nI r') (nI (2 + e)) dt) (f_R_goesThrough κ q (nI s) (nI r) (nI r') (nI e) rt) := by
  have hn := h.nr.2
  have e1 : (2 : Int32) + nI e = nI (2 + e) := by rw [show (2 : Int32) = nI 2 from rfl, nI_add]
  unfold f_Sh_goesThroughEnd f_R_goesThrough
  rw [e1]
  simp only [dr0 h hr, dr1 h hr, dr2 h hr, dr3 h hr, dr0 h hr', dr1 h hr', rr0 h hr, rr1 h hr, rr2 h hr, rr3 h hr, rr0 h hr', rr1 h hr', d_ridge h hr' (p := 2 + e) (by omega) rfl, r_ridge h.2.2 (Nat.lt_of_lt_of_le hr' hn) (p := 2 + e) (by omega) rfl, bnd_t, jn_e, wi_t]
  by_cases h1 : rw_ rt q s (810 + 7 * r + 0) = rw_ rt q s (810 + 7 * r' + 0)
  · rw [if_pos h1, if_pos h1]; exact Both.mk _
  · rw [if_neg h1, if_neg h1]
    by_cases h2 : rw_ rt q s (810 + 7 * r + 1) = rw_ rt q s (810 + 7 * r' + (2 + e))
    · rw [if_pos h2, if_pos h2]
      by_cases h3 : rw_ rt q s (810 + 7 * r' + 1) < rw_ rt q s (810 + 7 * r + 2)
      · rw [if_pos h3, if_pos (fun z => Int32.not_lt.mpr z.1 h3)]; exact Both.mk _
      · rw [if_neg h3]
        by_cases h4 : rw_ rt q s (810 + 7 * r + 3) < rw_ rt q s (810 + 7 * r' + 1)
        · rw [if_pos h4, if_pos (fun z => Int32.not_lt.mpr z.2 h4)]; exact Both.mk _
        · rw [if_neg h4, if_neg (fun z => z ⟨Int32.not_lt.mp h3, Int32.not_lt.mp h4⟩)]; exact Both.mk _
    · rw [if_neg h2, if_neg h2]; exact Both.mk _
theorem SR.rn (h : SR κ dt a rt q s) {r : Nat} (hr : r < nR (rw_ rt q s)) : ∀ p, p < 7 → rw_ rt q s (810 + 7 * r + p) = nI (rN (rw_ rt q s) r p) := by
  obtain ⟨h0, h1, h2, h3, h4, h5, h6, -⟩ := h.ridge hr
  intro p hp
  match p, hp with
  | 0, _ => exact (h0.cl (by decide)).1
  | 1, _ => exact (h1.cl (by decide)).1
  | 2, _ => exact (h2.cl (by decide)).1
  | 3, _ => exact (h3.cl (by decide)).1
  | 4, _ => exact (h4.cl (by decide)).1
  | 5, _ => exact (h5.cl (by decide)).1
  | 6, _ => exact (h6.cl (by decide)).1
theorem SR.fn (h : SR κ dt a rt q s) {r : Nat} (hr : r < nF (rw_ rt q s)) : ∀ p, p < 4 → rw_ rt q s (10 + 4 * r + p) = nI (fN (rw_ rt q s) r p) ∧ fN (rw_ rt q s) r p ≤ 200 := by
  obtain ⟨h0, h1, h2, h3⟩ := h.facet hr
  intro p hp
  match p, hp with
  | 0, _ => exact ⟨(h0.cl (by decide)).1, Nat.le_trans (h0.cl (by decide)).2.2 (by decide)⟩
  | 1, _ => exact ⟨(h1.cl (by decide)).1, Nat.le_trans (h1.cl (by decide)).2.2 (by decide)⟩
  | 2, _ => exact ⟨(h2.cl (by decide)).1, (h2.cl (by decide)).2.2⟩
  | 3, _ => exact ⟨(h3.cl (by decide)).1, (h3.cl (by decide)).2.2⟩
theorem nI_sub {x y : Nat} (h : y ≤ x) : nI x - nI y = nI (x - y) := by
  have e : nI x = nI (x - y) + nI y := by rw [nI_add]; congr 1; omega
  rw [e, Int32.add_sub_cancel]
theorem SR.lenN (h : SR κ dt a rt q s) {r : Nat} (hr : r < nR (rw_ rt q s)) : ∃ n, 0 < n ∧ n ≤ 200 ∧ rw_ rt q s (810 + 7 * r + 3) - rw_ rt q s (810 + 7 * r + 2) = nI n := by
  have h3 := ((h.ridge hr).2.2.2.1.cl (by decide)).2.2
  have hlt := (h.ridge hr).2.2.2.2.2.2.2.1
  refine ⟨rN (rw_ rt q s) r 3 - rN (rw_ rt q s) r 2, by omega, ?_, ?_⟩
  · unfold rN; unfold rN at hlt; omega
  · rw [h.rn hr 3 (by decide), h.rn hr 2 (by decide), nI_sub (by omega)]
/-- lengths are numbers up to 80000 -/
theorem came_n (h : SR κ dt a rt q s) (x y : Int32) : ∃ n, n ≤ 80000 ∧ f_R_cameIn κ q (nI s) x y 0 rt = some (nI n) := by
  have hn := h.nr.2
  have : ∃ n, n ≤ 200 * nR (rw_ rt q s) ∧ f_R_cameIn κ q (nI s) x y 0 rt = some (nI n) := by
    unfold f_R_cameIn
    refine lk1 (fun d t i => L_R_cameIn_6 κ rt d q (nI s) x y 0 t i) (fun z => ∃ n, n ≤ 200 * nR (rw_ rt q s) ∧ z = some (nI n)) (fun i t => ∃ n, n ≤ 200 * i ∧ t = nI n) (n := nR (rw_ rt q s)) ?_ ?_ (nR (rw_ rt q s)) 0 FU 0 (by omega) (FUn (by omega)) ⟨0, by omega, rfl⟩
    · rintro d t ⟨n, h1, rfl⟩
      rw [L_R_cameIn_6, rs7 h, bnd_t, h.nr.1, if_pos (nI_le (Nat.le_refl _) (by omega))]
      exact ⟨n, h1, rfl⟩
    · rintro d t i hi ⟨n, h1, rfl⟩ ih
      obtain ⟨m, -, m2, m3⟩ := h.lenN hi
      rw [L_R_cameIn_6, rs7 h, bnd_t, h.nr.1, if_neg (nI_ge hi (by omega)), rr4 h hi, bnd_t, jn_e, jn_e, r_len h hi, bnd_t, if_pos rfl, nI_1, m3, nI_add]
      split
      · exact ih _ ⟨n, by omega, by rw [Int32.add_zero]⟩
      · exact ih _ ⟨n + m, by omega, rfl⟩
  obtain ⟨n, h1, h2⟩ := this
  exact ⟨n, by omega, h2⟩
theorem q_cameN (h : SR κ dt a rt q s) (x y : Int32) : ∃ n, n ≤ 80000 ∧ f_Sh_lengthOfRounds κ a x y dt = some (nI n) ∧ f_R_cameIn κ q (nI s) x y 0 rt = some (nI n) := by
  obtain ⟨n, h1, h2⟩ := came_n h x y
  obtain ⟨v, g1, g2⟩ := q_came h x y
  rw [h2] at g2
  cases g2
  exact ⟨n, h1, g1, h2⟩
theorem ifl_n {x y : Nat} (hx : x < 2 ^ 31) (hy : y < 2 ^ 31) : ifl (nI x) (nI y) = nI x / nI y := by
  unfold ifl
  rw [if_pos]
  have e : (nI x ^^^ nI y).toBitVec.msb = false := by
    rw [Int32.toBitVec_xor, BitVec.msb_xor, BitVec.msb_eq_toInt, BitVec.msb_eq_toInt]
    rw [show (nI x).toBitVec.toInt = (x : Int) from nI_toInt hx, show (nI y).toBitVec.toInt = (y : Int) from nI_toInt hy]
    simp only [show ¬ ((x : Int) < 0) by omega, show ¬ ((y : Int) < 0) by omega, decide_false, Bool.xor_false]
  rw [BitVec.msb_eq_toInt] at e
  rw [i32le]
  have := of_decide_eq_false e
  show (0 : Int) ≤ _
  exact Int.not_lt.mp this
theorem d_fore (h : SR κ dt a rt q s) {k : Nat} (h0 : 0 < k) (hk : k ≤ rD (rw_ rt q s)) : f_Sh_foretoldOf κ a (nI k) dt = rw_ rt q s (3610 + k) := by
  have := h.rd.2
  unfold f_Sh_foretoldOf
  rw [gat_n rfl (by omega) (by decide), h.1.2.2.2.2.2 k hk h0]
/-- how far the foretold is off -/
theorem q_miss (h : SR κ dt a rt q s) {j m : Nat} (h1 : 1 ≤ j) (h2 : j ≤ m) (h3 : m ≤ rD (rw_ rt q s)) : Both (f_Sh_missOfRounds κ a (nI j) (nI m) dt) (L_R_miss_36 κ rt FU q (nI s) (nI m) 0 (nI j)) := by
  have hn := h.rd.2
  have hs := h.2.2
  unfold f_Sh_missOfRounds
  refine lk2 (fun d t i => L_Sh_missOfRounds_5 κ dt d a (nI m) t i) (fun d t i => L_R_miss_36 κ rt d q (nI s) (nI m) t i) Both (fun i _ => 1 ≤ i) (n := m + 1) ?_ ?_ ((m + 1) - j) j FU (0) (by omega) (FUn (by omega)) h1
  · intro d t _
    rw [L_Sh_missOfRounds_5, L_R_miss_36, if_pos (nI_lt (by omega) (by omega)), if_pos (nI_lt (by omega) (by omega))]
    exact Both.mk _
  · intro d t i hi h4 ih
    obtain ⟨v, g1, g2⟩ := q_pressed h (nI i)
    rw [L_Sh_missOfRounds_5, L_R_miss_36, if_neg (nI_nlt (by omega) (by omega)), if_neg (nI_nlt (by omega) (by omega)), g1, g2, bnd_t, bnd_t, d_fore h (by omega) (by omega), ixT, grd_t (vp_in_nI (by omega) (by decide)), nI_clamp (by omega), nI_1]
    exact ih _ (by omega)
/-- the round nearest by length -/
theorem q_guess (h : SR κ dt a rt q s) (own : Int32) (h0 : 0 < rD (rw_ rt q s)) : Both (f_Sh_addsBehind κ a own dt) (L_R_guess_47 κ rt (fun (v13 : Nat) (v15 : Int32) (v16 : Int32) => bnd (f_R_cameIn κ v13 v15 (v16 + 1) (v16 + 1) (0 : Int32) rt) (fun v17 => some v17)) FU q (nI s) own (0 : Int32) (1 : Int32)) := by
  have hn := h.rd.2
  have im : ∀ v : Int32, (if (2147483647 : Int32) ≤ v then (2147483647 : Int32) else v) = v := by
    intro v
    split
    · refine Int32.le_antisymm ‹_› ?_
      rw [i32le]
      have := Int32.toInt_lt v
      show v.toInt ≤ 2147483647
      omega
    · rfl
  unfold f_Sh_addsBehind
  obtain ⟨n0, -, c1, c2⟩ := q_cameN h 0 (nI 0)
  have hd : FU = 99999 + 1 := rfl
  have st1 : L_Sh_addsBehind_8 κ dt (fun (v7 : Nat) (v9 : Int32) => bnd (f_Sh_lengthOfRounds κ v7 (v9 + 1) (v9 + 1) dt) (fun v10 => some v10)) FU a own 0 2147483647 0 = L_Sh_addsBehind_8 κ dt (fun (v7 : Nat) (v9 : Int32) => bnd (f_Sh_lengthOfRounds κ v7 (v9 + 1) (v9 + 1) dt) (fun v10 => some v10)) 99999 a own 0 (iabs (nI n0 - own)) (nI 1) := by
    rw [hd, L_Sh_addsBehind_8, d_rd h, if_neg (show ¬ nI (rD (rw_ rt q s)) ≤ 0 from nI_nle h0 (by omega)), show f_Sh_lengthOfRounds κ a 0 0 dt = some (nI n0) from c1, bnd_t, im, ite_self]
    rfl
  rw [st1]
  have key := lk2 (fun d (t : Int32 × Int32) i => L_Sh_addsBehind_8 κ dt (fun (v7 : Nat) (v9 : Int32) => bnd (f_Sh_lengthOfRounds κ v7 (v9 + 1) (v9 + 1) dt) (fun v10 => some v10)) d a own t.1 t.2 i) (fun d t i => L_R_guess_47 κ rt (fun (v13 : Nat) (v15 : Int32) (v16 : Int32) => bnd (f_R_cameIn κ v13 v15 (v16 + 1) (v16 + 1) (0 : Int32) rt) (fun v17 => some v17)) (d + 1) q (nI s) own t.1 i) Both (fun _ t => ∃ b n, t.1 = nI b ∧ f_R_cameIn κ q (nI s) 0 (nI b) 0 rt = some n ∧ t.2 = iabs (n - own)) (n := rD (rw_ rt q s)) ?_ ?_ (rD (rw_ rt q s) - 1) 1 99999 (0, iabs (nI n0 - own)) (by omega) (by omega) ⟨0, nI n0, rfl, c2, rfl⟩
  · exact key
  · rintro d ⟨t1, t2⟩ ⟨b, n, e1, e2, e3⟩
    simp only at e1 e2 e3 ⊢
    subst e1
    rw [L_Sh_addsBehind_8, L_R_guess_47, d_rd h, if_pos (nI_le (Nat.le_refl _) (by omega)), rs5 h, bnd_t, h.rd.1, if_pos (nI_le (Nat.le_refl _) (by omega)), nI_1]
    obtain ⟨v, -, g1, g2⟩ := q_cameN h (nI (b + 1)) (nI (b + 1))
    rw [g1, g2]
    exact Both.mk _
  · rintro d ⟨t1, t2⟩ i hi ⟨b, n, e1, e2, e3⟩ ih
    simp only at e1 e2 e3 ih ⊢
    subst e1 e3
    obtain ⟨v, -, g1, g2⟩ := q_cameN h 0 (nI i)
    rw [L_Sh_addsBehind_8, L_R_guess_47, d_rd h, if_neg (nI_ge hi (by omega)), rs5 h, bnd_t, h.rd.1, if_neg (nI_ge hi (by omega)), g1, g2, e2, bnd_t, bnd_t, bnd_t, nI_1]
    by_cases hc : iabs (n - own) ≤ iabs (nI v - own)
    · rw [if_pos hc, if_pos hc]
      exact ih (nI b, iabs (n - own)) ⟨b, n, rfl, e2, rfl⟩
    · rw [if_neg hc, if_neg hc]
      exact ih (nI i, iabs (nI v - own)) ⟨i, nI v, rfl, g2, rfl⟩
end Pure
