/-! a facet breaks, both classes -/
noncomputable def tpl (v : Int64) (g : Nat) : Int32 := (lbnd (ldown (lbnd v (-1000000) 1000000 * (nI g).toInt64) 1000) 1 ((nI g).toInt64 - 1)).toInt32
noncomputable def brkS (w : Nat → Int64) (L : List (Nat × Nat)) (K : List c4) (S : Nat → Int32) (f wy g : Nat) : Nat → Int32 :=
  match thI w L 1 K K.length 0 with
  | none => brk2 (setS S 4 (nI (drN (sN S 4)))) f wy (nI ((drN (sN S 4) / 65536) % (g - 1) + 1))
  | some j => brk2 S f wy (tpl (smv w L (kg K j)) g)
def brQ (q s p j : Nat) : Prop := p = q + 14 ∧ 3680 * s ≤ j ∧ j < 3680 * s + 3680 ∧ j ≠ 3680 * s + 3 ∨ exQ q p j
section Break2
variable {κ : Ko} {a q s f : Nat} {S : Nat → Int32} {L : List (Nat × Nat)} {K : List c4} {w : Nat → Int64}
theorem fr_br {r1 r2 : AS} (h : FrR q s r1 r2) : Same (brQ q s) r1 r2 := fun p j hp => ⟨h.1 p j (fun e => by
  by_cases h1 : j < 3680 * s ∨ 3680 * s + 3680 ≤ j ∨ j = 3680 * s + 3
  · exact h1
  · exact absurd (Or.inl ⟨e, by omega, by omega, by omega⟩) hp), h.2.1 p j, h.2.2 p j⟩
theorem rk_br {r1 r2 : AS} (h : Same (rkW q) r1 r2) : Same (brQ q s) r1 r2 := (rk_exQ h).mono (fun _ _ z => Or.inr z)
theorem way_x (v : Int32) : wayS (setS S 4 v) f = wayS S f := by
  have e : ∀ k, k ≠ 4 → setS S 4 v k = S k := fun k hk => if_neg hk
  unfold wayS
  rw [e _ (by omega), e _ (by omega)]
theorem sht_x (v : Int32) : shtS (setS S 4 v) f = shtS S f := by
  have e : ∀ k, k ≠ 4 → setS S 4 v k = S k := fun k hk => if_neg hk
  unfold shtS
  rw [e _ (by omega), e _ (by omega)]
theorem lng_x (v : Int32) : lngS (setS S 4 v) f = lngS S f := by
  have e : ∀ k, k ≠ 4 → setS S 4 v k = S k := fun k hk => if_neg hk
  unfold lngS
  rw [e _ (by omega), e _ (by omega)]
theorem sh_x {st : AS} (h : ShD κ st a S) {m : Nat} (hm : m < 2 ^ 31) : ShD κ (ul st a 13 (lN m)) a (setS S 4 (nI m)) := by
  have e : ∀ k, k ≠ 4 → setS S 4 (nI m) k = S k := fun k hk => if_neg hk
  have e6 : nF (setS S 4 (nI m)) = nF S := by unfold nF; rw [e 6 (by decide)]
  have e7 : nR (setS S 4 (nI m)) = nR S := by unfold nR; rw [e 7 (by decide)]
  have e5 : rD (setS S 4 (nI m)) = rD S := by unfold rD; rw [e 5 (by decide)]
  obtain ⟨h1, ⟨g0, g1, g2, g3, g4, g5, g6, g7, g8⟩, h3, h4, h5, h6⟩ := h
  refine ⟨h1, ⟨by rw [e 0 (by decide)]; exact g0, by rw [e 1 (by decide)]; exact g1, trivial, ?_, by rw [e 5 (by decide)]; exact g4, by rw [e 6 (by decide)]; exact g5, by rw [e 7 (by decide)]; exact g6, by rw [e 8 (by decide)]; exact g7, by rw [e 9 (by decide)]; exact g8⟩, by rw [e 2 (by decide)]; exact h3, fun f hf p hp => ?_, fun r hr p hp => ?_, fun k hk h0 => ?_⟩
  · rw [gl_ul, if_pos ⟨rfl, rfl⟩, show setS S 4 (nI m) 4 = nI m from if_pos rfl, nI_l hm]
  · rw [e6] at hf; rw [e _ (by omega)]; exact h4 f hf p hp
  · rw [e7] at hr; rw [e _ (by omega)]; exact h5 r hr p hp
  · rw [e5] at hk; rw [e _ (by omega)]; exact h6 k hk h0
theorem x_n (hk : SOK S) : S 4 = nI (sN S 4) ∧ sN S 4 < 2 ^ 31 := by
  have := (hk.1.2.2.2.2.1).cl (by decide)
  exact ⟨this.1, by show (S 4).toNatClampNeg < _; omega⟩
theorem d_brk {dt : AS} (h : ShD κ dt a S) (hk : SOK S) (hf : f < nF S) (hF : nF S < 200) (hR : nR S < 400) {wy g : Nat} (hwy : wy < 2) (hway : wayS S f = nI wy) (hlng : lngS S f = nI g) (g1 : 2 ≤ g) (g2 : g ≤ 200) (hw : ∀ v, v < 8 → gl dt (a + 4) v = w v) (hl : LWD dt (LA κ (S 2).toNatClampNeg) L K) (hL : LWT L K) (ha : a + 4 < LA κ (S 2).toNatClampNeg ∨ LA κ (S 2).toNatClampNeg + 8 < a) :
    ∃ dt', f_Sh_breakFacet κ a (nI f) dt = some dt' ∧ ShD κ dt' a (brkS w L K S f wy g) ∧ Same (shW κ a) dt dt' := by
  have hn2 := sok_2 hk
  have gm : nI g - 1 = nI (g - 1) := by rw [show (1 : Int32) = nI 1 from rfl, nI_sub (by omega)]
  have hge : (1 : Int32) ≤ nI g - 1 := by rw [gm]; exact nI_le (a := 1) (by omega) (by omega)
  have hne : ¬ nI g - 1 = 0 := by rw [gm]; exact nI_ne0 (n := g - 1) (by omega) (by omega)
  obtain ⟨s6, e6, w6⟩ := d_tells (κ := κ) (so := 1) (a3 := a + 4) (by decide) hl hL.1 hL.2 (by omega) hw (-1000000) 1000000 (-2147483648)
  have w6' : Same (shW κ a) dt s6 := w6.mono (fun p j z => Or.inr ⟨(S 2).toNatClampNeg, by omega, by omega⟩)
  have h6 := h.fr w6 (fun p j _ _ z => by omega)
  unfold f_Sh_breakFacet brkS
  rw [d_longS h hk hf, bnd_t, hlng, if_pos hge, h.2.2.1, bnd_t, grd_t (LA_ly (by omega)), show (1 : Int32) = nI 1 from rfl, e6, bnd2_t, ← show (1 : Int32) = nI 1 from rfl]
  simp only [jn_e]
  cases hth : thI w L 1 K K.length 0 with
  | none =>
    obtain ⟨x1, x2⟩ := x_n hk
    obtain ⟨y1, y2⟩ := d_draw (κ := κ) (dt := s6) (a := a) (n := sN S 4) (by rw [h6.2.1.2.2.2.1, x1, nI_l x2]) x2
    have hd := drN_lt (sN S 4)
    rw [if_pos rfl, grd_t hne, y1, y2, drawn_place _ g1 g2]
    have h7 := sh_x h6 (m := drN (sN S 4)) (by omega)
    have e6' : nF (setS S 4 (nI (drN (sN S 4)))) = nF S := by unfold nF; rfl
    have e7' : nR (setS S 4 (nI (drN (sN S 4)))) = nR S := by unfold nR; rfl
    obtain ⟨d2, z1, z2, z3⟩ := d_tail (κ := κ) h7 (sok_x hk (by omega)) (f := f) (by rw [e6']; exact hf) (by rw [e6']; exact hF) (by rw [e7']; exact hR) hwy (by rw [way_x]; exact hway) (nI (drN (sN S 4) / 65536 % (g - 1) + 1))
    exact ⟨d2, z1, z2, (w6'.tr ((Same.rf _ _).ul (Or.inl ⟨⟨Nat.le_refl _, by omega⟩, by omega⟩))).tr z3⟩
  | some j =>
    obtain ⟨p, p1, p2, p3, p4, p5⟩ := told_place (smv w L (kg K j)) g1 g2
    rw [if_neg p3]
    unfold f_Jm_floorDiv
    rw [grd_t (show ¬ (1000 : Int32) = 0 by decide), bnd_t, p4]
    have : tpl (smv w L (kg K j)) g = nI p := p5
    simp only [this]
    obtain ⟨d2, z1, z2, z3⟩ := d_tail (κ := κ) h6 hk hf hF hR hwy hway (nI p)
    exact ⟨d2, z1, z2, w6'.tr z3⟩
theorem r_brk {rt : AS} (h : rw_ rt q s = S) (hs : s < 7) (hk : SOK S) (hf : f < nF S) (hF : nF S < 200) (hR : nR S < 400) {wy g : Nat} (hwy : wy < 2) (hway : wayS S f = nI wy) (hlng : lngS S f = nI g) (g1 : 2 ≤ g) (g2 : g ≤ 200) (hw : ∀ v, v < 8 → gl rt (q + 13) v = w v) (hl : LWQ rt q (S 2).toNatClampNeg L K) (hL : LWT L K) :
    ∃ rt', f_R_breaksAt κ q (nI s) (nI f) rt = some rt' ∧ rw_ rt' q s = brkS w L K S f wy g ∧ Same (brQ q s) rt rt' := by
  have hn2 := sok_2 hk
  have h12 := hl.2.2.1
  have gm : nI g - 1 = nI (g - 1) := by rw [show (1 : Int32) = nI 1 from rfl, nI_sub (by omega)]
  have hne : ¬ nI g - 1 = 0 := by rw [gm]; exact nI_ne0 (n := g - 1) (by omega) (by omega)
  obtain ⟨r1, e1, w1⟩ := r_that (κ := κ) (so := 1) (t := (S 2).toNatClampNeg) (by decide) (by omega) hL.1 hL.2 hl hw
  have h1 := rw_fr h w1 (fun j z => by unfold rkW at z; omega)
  unfold f_R_breaksAt brkS
  rw [rs_any (k := 2) (y := 2) h hs (by decide) rfl, bnd_t, r_longS h hk hs hf, bnd_t, hlng, hn2.1, show f_R_clauseThat κ q (nI (S 2).toNatClampNeg) 1 rt = _ from e1, bnd2_t]
  simp only [jn_e]
  cases hth : thI w L 1 K K.length 0 with
  | none =>
    obtain ⟨x1, x2⟩ := x_n hk
    have hd := drN_lt (sN S 4)
    have hdr := r_draw (κ := κ) (rt := r1) (q := q) (s := s) (n := sN S 4) hs (by rw [h1]; exact x1) x2
    have h2 : rw_ (ui r1 (q + 14) (3680 * s + 4) (nI (drN (sN S 4)))) q s = setS S 4 (nI (drN (sN S 4))) := by rw [rw_ui, h1]
    have w2 : Same (brQ q s) r1 (ui r1 (q + 14) (3680 * s + 4) (nI (drN (sN S 4)))) := (Same.rf _ _).ui (Or.inl ⟨rfl, by omega, by omega, by omega⟩)
    rw [if_neg (show ¬ (0 : Int32) ≤ -1 by decide), hdr, bnd2_t, grd_t hne, drawn_place _ g1 g2, place_lb g2 (by omega) (by have := Nat.mod_lt (drN (sN S 4) / 65536) (show 0 < g - 1 by omega); omega)]
    have e6' : nF (setS S 4 (nI (drN (sN S 4)))) = nF S := by unfold nF; rfl
    have e7' : nR (setS S 4 (nI (drN (sN S 4)))) = nR S := by unfold nR; rfl
    obtain ⟨d2, z1, z2, z3⟩ := r_tail (κ := κ) h2 hs (sok_x hk (by omega)) (f := f) (by rw [e6']; exact hf) (by rw [e6']; exact hF) (by rw [e7']; exact hR) hwy (by rw [way_x]; exact hway) (nI (drN (sN S 4) / 65536 % (g - 1) + 1))
    exact ⟨d2, z1, z2, ((rk_br w1).tr w2).tr (fr_br z3)⟩
  | some j =>
    have hj := thI_lt _ _ _ hth
    obtain ⟨p, p1, p2, p3, p4, p5⟩ := told_place (smv w L (kg K j)) g1 g2
    obtain ⟨r2, e2, w2⟩ := r_summed (κ := κ) (i := j) (t := (S 2).toNatClampNeg) (by omega) hL.1 hL.2 (hl.of w1) (rk_w w1 hw) (by omega)
    have h2 := rw_fr h1 w2 (fun j z => by unfold rkW at z; omega)
    rw [if_pos (show (0 : Int32) ≤ nI j from nI_le (a := 0) (Nat.zero_le _) (by omega)), e2, bnd2_t]
    unfold f_R_down
    rw [grd_t (show ¬ (1000 : Int64) = 0 by decide), bnd_t, p5]
    have : tpl (smv w L (kg K j)) g = nI p := p5
    simp only [this]
    obtain ⟨d2, z1, z2, z3⟩ := r_tail (κ := κ) h2 hs hk hf hF hR hwy hway (nI p)
    exact ⟨d2, z1, z2, ((rk_br w1).tr (rk_br w2)).tr (fr_br z3)⟩
end Break2
