/-! corners, strips, neighbours: both classes -/
section Mut2
variable {κ : Ko} {C : Nat → Nat} {n m : Nat} {T : Nat → Nat} {dt rt dt' rt' : AS}
/-- scratch and the points of corners -/
def s3D (κ : Ko) (p j : Nat) : Prop := scD κ p j ∨ p = kB (kt κ) + 63
theorem TXI.fr3 (h : TXI κ dt rt (QQ κ) C) (hd : Same (s3D κ) dt dt') (hr : Same (scQ κ) rt rt') : TXI κ dt' rt' (QQ κ) C := by
  obtain ⟨h0, h1, h2, h3, h4⟩ := h
  have c6 : ∀ s, s < 4 → C s ≤ 6 := fun s hs => (h0 s hs).1
  refine ⟨fun s hs => ⟨(h0 s hs).1, ?_, ?_⟩, fun k hk => ?_, fun k hk => ?_, fun k hk => ?_, fun k hk => ?_⟩
  · rw [(hd _ _ (fun z => by unfold s3D scD at z; omega)).1]; exact (h0 s hs).2.1
  · rw [(hr _ _ (fun z => by unfold scQ at z; omega)).1]; exact (h0 s hs).2.2
  · have := c6 0 (by decide)
    exact (h1 k hk).of2 hd hr (fun p j x1 x2 x3 z => by unfold s3D scD at z; unfold LA at x1 x2 x3; omega) (fun p j x z => by unfold scQ at z; unfold tgQ at x; omega)
  · have := c6 1 (by decide)
    exact (h2 k hk).of hd hr (fun p j x1 x2 z => by unfold s3D scD at z; unfold DA at x1 x2; omega) (fun p j x z => by unfold scQ at z; unfold tgQ at x; omega)
  · have := c6 2 (by decide)
    exact (h3 k hk).of2 hd hr (fun p j x1 x2 x3 z => by unfold s3D scD at z; unfold RA at x1 x2 x3; omega) (fun p j x z => by unfold scQ at z; unfold tgQ at x; omega)
  · have := c6 3 (by decide)
    exact (h4 k hk).of2 hd hr (fun p j x z => by unfold s3D scD at z; unfold SA at x; omega) (fun p j x z => by unfold scQ at z; unfold tgS at x; omega)
theorem GRc.s3 (h : GRc κ C n T m dt rt) (hd : Same (s3D κ) dt dt') (hr : Same (scQ κ) rt rt') (h0 : CN0 dt' (kB (kt κ) + 62)) : GRc κ C n T m dt' rt' := by
  obtain ⟨⟨h1, h2, h3, h4, h5, h6, h7, h8, h9⟩, hS⟩ := h
  refine ⟨⟨h1.fr (fun p j x1 x2 => (hd _ _ (fun z => by unfold s3D scD at z; omega)).2.2), h2.fr3 hd hr, h3.fr hd hr (fun p j x z => by unfold s3D scD at z; omega) (fun p j x z => by unfold scQ at z; omega), h4.fr hd (fun p j x z => by unfold s3D scD at z; omega), h5, ?_, ?_, h0, fun k hk => ?_⟩, fun i hi => ?_⟩
  · rw [(hd _ _ (fun z => by unfold s3D scD at z; omega)).1]; exact h6
  · rw [(hr _ _ (fun z => by unfold scQ at z; omega)).1]; exact h7
  · exact (h9 k hk).fr hk hd hr (fun p j x1 x2 z => by unfold s3D scD at z; omega) (fun p j x1 x2 z => by unfold scQ at z; omega)
  · have hs := (hS i hi).fr hd (fun p j x1 x2 z => by unfold s3D scD at z; unfold HA at x1 x2; omega)
    have ee : ∀ k, k < 3680 → rw_ rt' (QQ κ) i k = rw_ rt (QQ κ) i k := fun k hk => (hr _ _ (fun z => by unfold scQ at z; omega)).1
    obtain ⟨g1, g2, g3, g4, g5⟩ := hs
    exact ⟨g1.ext ee (sok_6 g2).2.1 (sok_7 g2).2 ((g2.1.2.2.2.2.2.1).cl (by decide)).2.2, sok_ext g2 ee, uok_ext g2 g3 ee, by rw [ee 3 (by decide)]; exact g4, by rw [ee 2 (by decide)]; exact g5⟩
theorem cn_s3 {p j : Nat} (h : cnW (kB (kt κ) + 62) p) : s3D κ p j := by
  unfold cnW at h
  unfold s3D scD
  omega
theorem GRc.s3Out (h : GRc κ C n T m dt rt) (v : Int32) (hd : Same (s3D κ) dt dt') (hr : Same (scQ κ) rt rt') (h0 : CN0 dt' (kB (kt κ) + 62)) : OUT κ dt rt (some (v, dt')) (some (v, rt')) :=
  ⟨v, dt', rt', rfl, rfl, (h.s3 hd hr h0).gr, hd.mono (fun p j z => z.elim (fun y => sc_low y) (fun y => by unfold QQ; omega)), hr.mono (fun _ _ z => sc_hig z)⟩
theorem x_corners (h : GRc κ C n T m dt rt) (x y : Int32) : OUT κ dt rt (f_X_corners κ (kB (kt κ)) x y dt) (f_R_corners κ (QQ κ) x y rt) := by
  unfold f_X_corners f_R_corners
  simp only [jn_e]
  rcases h.pl x with ⟨i, hi, rfl, e1, e2⟩ | ⟨e1, e2⟩
  · have hm := h.m6
    have hS := h.sr hi
    obtain ⟨d2, r2, M, z1, z2, z3, z4, z5, z6, z7, z8, z9⟩ := q_draw (Z := kB (kt κ) + 62) hS (Or.inr (by unfold HA; omega)) h.1.2.2.2.2.2.2.2.1
    have hrow : rw_ r2 (QQ κ) i = rw_ rt (QQ κ) i := rw_fr rfl z9 (fun j z => by omega)
    have hc := fun x2 => r_corners (κ := κ) z2 z4 hrow hS.2.1 hS.2.2 x2
    have w1 : Same (s3D κ) dt d2 := z8.mono (fun p j z => cn_s3 z)
    have w2 : Same (scQ κ) rt r2 := z9.mono (fun p j z => by unfold scQ; omega)
    rw [e1, e2, bnd_t, nulS, grd_t hS.1.1, if_neg (show ¬ (1 : Int32) = 0 by decide), z1, bnd_t, hc y, bnd2_t]
    by_cases y0 : y = 0
    · rw [if_pos y0, if_pos y0, if_pos y0]
      have ea : f_Cn_all κ (kB (kt κ) + 62) d2 = nI (totG (PRD y) (fun p => M p % 32) (sN (rw_ rt (QQ κ) i) 0) (sN (rw_ rt (QQ κ) i) 1)) := by
        show gi d2 (kB (kt κ) + 62) 2 = _
        rw [z5, y0, totG_eq prd0]
      rw [ea]
      exact h.s3Out _ w1 w2 z3
    · rw [if_neg y0, if_neg y0, if_neg y0]
      by_cases h3 : wi y.toInt64 (2 : Int64) (4 : Int64) = 0
      · rw [if_pos h3, if_pos h3]; exact h.no _
      · have hb := Decidable.not_not.mp (fun z => h3 ((wi_t (x := y) (lo := 2) (hi := 4)).mpr z))
        have hb1 := hb.1
        rw [i32le, show (2 : Int32).toInt = 2 from rfl] at hb1
        obtain ⟨p, rfl, hp⟩ := i_nat_le (k := 4) (show (0 : Int32) ≤ y by rw [i32le, show (0 : Int32).toInt = 0 from rfl]; omega) hb.2 (by decide)
        rw [nI_toInt (by omega)] at hb1
        have ea : f_Cn_withArms κ (kB (kt κ) + 62) (nI p) d2 = nI (totG (PRD (nI p)) (fun p => M p % 32) (sN (rw_ rt (QQ κ) i) 0) (sN (rw_ rt (QQ κ) i) 1)) := by
          unfold f_Cn_withArms
          rw [gat_n (j := p) rfl (by omega) (by decide), z6 p (by omega), totG_eq (prdA (by omega) (by omega))]
        rw [if_neg h3, if_neg h3, ea]
        exact h.s3Out _ w1 w2 z3
  · rw [e1, e2, bnd_t, nulN, if_pos rfl]; exact h.no _
theorem x_flat (h : GRc κ C n T m dt rt) (x : Int32) : OUT κ dt rt (f_X_flat κ (kB (kt κ)) x dt) (f_R_flat κ (QQ κ) x rt) := by
  unfold f_X_flat f_R_flat
  rcases h.pl x with ⟨i, hi, rfl, e1, e2⟩ | ⟨e1, e2⟩
  · have hm := h.m6
    have hS := h.sr hi
    obtain ⟨d2, r2, M, z1, z2, z3, z4, z5, z6, z7, z8, z9⟩ := q_draw (Z := kB (kt κ) + 62) hS (Or.inr (by unfold HA; omega)) h.1.2.2.2.2.2.2.2.1
    have hrow : rw_ r2 (QQ κ) i = rw_ rt (QQ κ) i := rw_fr rfl z9 (fun j z => by omega)
    have w1 : Same (s3D κ) dt d2 := z8.mono (fun p j z => cn_s3 z)
    have w2 : Same (scQ κ) rt r2 := z9.mono (fun p j z => by unfold scQ; omega)
    have hb := totG_le (fun m => cC m && !flt m) (fun p => M p % 32) (W := sN (rw_ rt (QQ κ) i) 0) (H := sN (rw_ rt (QQ κ) i) 1) ((hS.2.1.1.1).cl (by decide)).2.2 ((hS.2.1.1.2.1).cl (by decide)).2.2
    rw [e1, e2, bnd_t, nulS, grd_t hS.1.1, if_neg (show ¬ (1 : Int32) = 0 by decide), z1, bnd_t, r_corners (κ := κ) z2 z4 hrow hS.2.1 hS.2.2 5, bnd2_t, totG_eq prd5]
    unfold f_Cn_liesFlat
    rw [z7]
    generalize totG (fun m => cC m && !flt m) (fun p => M p % 32) (sN (rw_ rt (QQ κ) i) 0) (sN (rw_ rt (QQ κ) i) 1) = t at hb
    by_cases ht : t = 0
    · rw [if_pos ht, grd_t (Or.inr rfl), bnd_t, if_neg (show ¬ (1 : Int32) = 0 by decide), if_pos (show nI t = 0 by rw [ht]; rfl)]
      exact h.s3Out _ w1 w2 z3
    · rw [if_neg ht, grd_t (Or.inl rfl), bnd_t, if_pos rfl, if_neg (show ¬ nI t = 0 from fun z => ht ((nI_eq (b := 0) (by omega) (by decide)).mp z))]
      exact h.s3Out _ w1 w2 z3
  · rw [e1, e2, bnd_t, nulN, if_pos rfl]; exact h.no _
theorem spr_sc {k p j : Nat} (hk : k < 6) (h : sprW (SA κ k) p j) : scD κ p j := by
  unfold sprW SA at h
  unfold scD
  omega
theorem sq_sc {p j : Nat} (h : sqW (QQ κ) p j) : scQ κ p j := by
  unfold sqW at h
  unfold scQ
  omega
theorem x_strip (h : GRc κ C n T m dt rt) (x y : Int32) : OUT κ dt rt (f_X_strip κ (kB (kt κ)) x y dt) (f_R_strip κ (QQ κ) x y rt) := by
  unfold f_X_strip f_R_strip
  simp only [jn_e]
  rcases h.stripAt x with ⟨k, hk, rfl, d1, d2, d3⟩ | ⟨d1, d3⟩
  · have hc6 := (h.cnt (s := 3) (by decide)).1
    obtain ⟨F, P, f, hD, hQ, hOK⟩ := h.1.2.1.2.2.2.2 k hk
    obtain ⟨l, P', F', s2, r2, t', z1, z2, z3, z4, z5, z6, z7, z8⟩ := q_reduce (κ := κ) hD hQ hOK (by omega) (x := -1) (t := none) (Or.inl ⟨rfl, rfl⟩)
    have w1 : Same (scD κ) dt s2 := z7.mono (fun p j z => spr_sc (by omega) z)
    have w2 : Same (scQ κ) rt r2 := z8.mono (fun p j z => sq_sc z)
    have fc : f_Sp_foldCount κ (SA κ k) s2 = nI F := (hD.fr z7).1
    have fq : gi r2 (QQ κ + 10) k = nI F := (hQ.fr z8).1
    have fl : f_Sp_foldsLeft κ (SA κ k) s2 = nI l := z3.2.1
    have st : f_Sp_stepsTaken κ (SA κ k) s2 = nI t' := z5
    have fp : f_Sp_firstPartLeft κ (SA κ k) s2 = P' 0 := by
      unfold f_Sp_firstPartLeft
      rw [gat_n (i := 0) (j := 0) rfl (by decide) (by decide)]; exact z3.2.2.1 0 (Nat.zero_le _)
    have fpq : gi r2 (QQ κ + 17) (0 : Int32).toNatClampNeg = P' 0 := z4.2.2.1 0 (Nat.zero_le _)
    rw [d1, d3, bnd_t, bnd_t, nulS, grd_t d2, if_neg (show ¬ (1 : Int32) = 0 by decide), z1, bnd_t, fc, fl, st, fp]
    by_cases h2 : wi y.toInt64 (0 : Int64) (5 : Int64) = 0
    · have hn : ∀ k, k < 6 → ¬ y = nI k := fun k hk z => by
        rw [z] at h2
        exact (wi_t (x := nI k) (lo := 0) (hi := 5)).mp h2 ⟨nI_ge0 (by omega), nI_le (b := 5) (by omega) (by decide)⟩
      rw [if_pos h2, if_neg (show ¬ y = 0 from hn 0 (by decide)), if_neg (show ¬ y = 1 from hn 1 (by decide)), if_neg (show ¬ y = 2 from hn 2 (by decide)), if_neg (show ¬ y = 3 from hn 3 (by decide)), if_neg (show ¬ y = 4 from hn 4 (by decide)), if_neg (show ¬ y = 5 from hn 5 (by decide))]
      exact h.scOut _ w1 (Same.rf _ _)
    · obtain ⟨p, hp, rfl⟩ := wi0 (c := 5) (by decide) rfl h2
      rw [if_neg h2]
      have hc : p = 0 ∨ p = 1 ∨ p = 2 ∨ p = 3 ∨ p = 4 ∨ p = 5 := by omega
      rcases hc with rfl | rfl | rfl | rfl | rfl | rfl
      · rw [if_pos (show nI 0 = 0 from rfl), if_neg (show ¬ nI 0 = 5 by decide), z2, bnd_t, if_pos (show nI 0 = 0 from rfl), grd_t (vp_in_nI (by omega) (by decide)), nI_clamp (by omega), fq]
        exact h.scOut _ w1 w2
      · rw [if_neg (show ¬ nI 1 = 0 by decide), if_pos (show nI 1 = 1 from rfl), if_neg (show ¬ nI 1 = 5 by decide), z2, bnd_t, if_neg (show ¬ nI 1 = 0 by decide), if_pos (show nI 1 = 1 from rfl), z4.2.1]
        exact h.scOut _ w1 w2
      · rw [if_neg (show ¬ nI 2 = 0 by decide), if_neg (show ¬ nI 2 = 1 by decide), if_pos (show nI 2 = 2 from rfl), if_neg (show ¬ nI 2 = 5 by decide), z2, bnd_t, if_neg (show ¬ nI 2 = 0 by decide), if_neg (show ¬ nI 2 = 1 by decide), if_pos (show nI 2 = 2 from rfl), z6]
        exact h.scOut _ w1 w2
      · rw [if_neg (show ¬ nI 3 = 0 by decide), if_neg (show ¬ nI 3 = 1 by decide), if_neg (show ¬ nI 3 = 2 by decide), if_pos (show nI 3 = 3 from rfl), if_neg (show ¬ nI 3 = 5 by decide), z2, bnd_t, if_neg (show ¬ nI 3 = 0 by decide), if_neg (show ¬ nI 3 = 1 by decide), if_neg (show ¬ nI 3 = 2 by decide), if_pos (show nI 3 = 3 from rfl), z4.2.1]
        exact h.scOut _ w1 w2
      · rw [if_neg (show ¬ nI 4 = 0 by decide), if_neg (show ¬ nI 4 = 1 by decide), if_neg (show ¬ nI 4 = 2 by decide), if_neg (show ¬ nI 4 = 3 by decide), if_pos (show nI 4 = 4 from rfl), if_neg (show ¬ nI 4 = 5 by decide), z2, bnd_t, if_neg (show ¬ nI 4 = 0 by decide), if_neg (show ¬ nI 4 = 1 by decide), if_neg (show ¬ nI 4 = 2 by decide), if_neg (show ¬ nI 4 = 3 by decide), grd_t (show vp_in 0 21 from vp_in_nI (n := 0) (by decide) (by decide)), fpq]
        exact h.scOut _ w1 w2
      · obtain ⟨v, s3, r3, y1, y2, y3, y4⟩ := q_deep (κ := κ) (hD.fr z7) hQ hOK (show k < 6 by omega)
        rw [if_neg (show ¬ nI 5 = 0 by decide), if_neg (show ¬ nI 5 = 1 by decide), if_neg (show ¬ nI 5 = 2 by decide), if_neg (show ¬ nI 5 = 3 by decide), if_neg (show ¬ nI 5 = 4 by decide), if_pos (show nI 5 = 5 from rfl), if_pos (show nI 5 = 5 from rfl), y1, y2, bnd2_t, bnd2_t]
        exact h.scOut _ (w1.tr (y3.mono (fun p j z => spr_sc (by omega) z))) (y4.mono (fun p j z => sq_sc z))
  · rw [d1, d3, bnd_t, bnd_t, nulN, if_pos rfl]; exact h.no _
theorem nb_sc {p j : Nat} (h : nbW (kB (kt κ) + 65) p) : scD κ p j := by
  unfold nbW at h
  unfold scD
  omega
theorem wk_sc {p j : Nat} (h : wkD (kB (kt κ) + 65) p) : scD κ p j := by
  unfold wkD at h
  unfold scD
  omega
theorem wq_sc {p j : Nat} (h : wkQ (QQ κ) p) : scQ κ p j := by
  unfold wkQ at h
  unfold scQ
  omega
theorem GRc.facet (h : GRc κ C n T m dt rt) {i : Nat} (hi : i < m) (y : Int32) : f_R_isFacet κ (QQ κ) (nI i) y rt = some (if wi y.toInt64 (0 : Int64) (nI (nF (rw_ rt (QQ κ) i)) - 1).toInt64 = 0 then 0 else 1) := by
  have hS := h.sr hi
  have hm := h.m6
  have e : f_R_isSheet κ (QQ κ) (nI i) rt = 1 := by
    unfold f_R_isSheet
    rw [jn_e, if_neg (Int32.not_lt.mpr (nI_ge0 (by omega))), h.1.2.2.2.2.2.2.1, if_neg (nI_ge hi (by omega))]
  unfold f_R_isFacet
  rw [e, jn_e, if_neg (show ¬ (1 : Int32) = 0 by decide), rs6 hS, bnd_t, hS.nf.1]
  by_cases h2 : wi y.toInt64 (0 : Int64) (nI (nF (rw_ rt (QQ κ) i)) - 1).toInt64 = 0
  · rw [if_pos h2, if_pos h2]
  · rw [if_neg h2, if_neg h2]
theorem facet_no {x y : Int32} (h : f_R_isSheet κ (QQ κ) x rt = 0) : f_R_isFacet κ (QQ κ) x y rt = some 0 := by
  unfold f_R_isFacet
  rw [h, jn_e, if_pos rfl]
theorem x_beside (h : GRc κ C n T m dt rt) (x y : Int32) : OUT κ dt rt (f_X_beside κ (kB (kt κ)) x y dt) (bnd (f_R_beside κ (QQ κ) x y rt) (fun v => some (v, rt))) := by
  unfold f_X_beside f_R_beside
  rcases h.pl x with ⟨i, hi, rfl, e1, e2⟩ | ⟨e1, e2⟩
  · have hm := h.m6
    have hS := h.sr hi
    have ec : f_Sh_facetCount κ (HA κ i) dt = nI (nF (rw_ rt (QQ κ) i)) := d_nf hS
    rw [e1, bnd_t, nulS, grd_t hS.1.1, ec, h.facet hi]
    by_cases h2 : wi y.toInt64 (0 : Int64) (nI (nF (rw_ rt (QQ κ) i)) - 1).toInt64 = 0
    · rw [if_pos h2, if_pos h2, bnd_t, if_pos rfl]; exact h.no _
    · obtain ⟨f, hf, rfl⟩ := wi0' (by have := hS.nf; omega) h2
      obtain ⟨d2, z1, z2, z3, z4⟩ := d_find (κ := κ) (Z := kB (kt κ) + 65) hS.1 hS.2.1 (Or.inr (by unfold HA; omega))
      rw [if_neg h2, if_neg h2, bnd_t, if_neg (show ¬ (1 : Int32) = 0 by decide), z1, bnd_t, r_beside rfl hS.2.1 hS.2.2 hf, bnd_t, bnd_t, d_beside z2 hS.2.1 hf]
      exact h.scOut _ (z4.mono (fun p j z => nb_sc z)) (Same.rf _ _)
  · rw [e1, bnd_t, nulN, facet_no e2, bnd_t, if_pos rfl]; exact h.no _
theorem x_most (h : GRc κ C n T m dt rt) (x : Int32) : OUT κ dt rt (f_X_most κ (kB (kt κ)) x dt) (bnd (f_R_most κ (QQ κ) x rt) (fun v => some (v, rt))) := by
  unfold f_X_most f_R_most
  rcases h.pl x with ⟨i, hi, rfl, e1, e2⟩ | ⟨e1, e2⟩
  · have hm := h.m6
    have hS := h.sr hi
    obtain ⟨d2, z1, z2, z3, z4⟩ := d_find (κ := κ) (Z := kB (kt κ) + 65) hS.1 hS.2.1 (Or.inr (by unfold HA; omega))
    obtain ⟨v, g1, g2⟩ := q_most (κ := κ) z2 rfl hS.2.1 hS.2.2
    rw [e1, e2, bnd_t, nulS, grd_t hS.1.1, if_neg (show ¬ (1 : Int32) = 0 by decide), z1, bnd_t, g1, g2, bnd_t, bnd_t]
    exact h.scOut _ (z4.mono (fun p j z => nb_sc z)) (Same.rf _ _)
  · rw [e1, e2, bnd_t, nulN, if_pos rfl]; exact h.no _
theorem x_steps (h : GRc κ C n T m dt rt) (x y z : Int32) : OUT κ dt rt (f_X_steps κ (kB (kt κ)) x y z dt) (f_R_steps κ (QQ κ) x y z rt) := by
  unfold f_X_steps f_R_steps
  simp only [jn_e]
  rcases h.pl x with ⟨i, hi, rfl, e1, e2⟩ | ⟨e1, e2⟩
  · have hm := h.m6
    have hS := h.sr hi
    have hF := hS.nf
    have ec : f_Sh_facetCount κ (HA κ i) dt = nI (nF (rw_ rt (QQ κ) i)) := d_nf hS
    rw [e1, bnd_t, nulS, grd_t hS.1.1, ec, h.facet hi, h.facet hi]
    by_cases h2 : wi y.toInt64 (0 : Int64) (nI (nF (rw_ rt (QQ κ) i)) - 1).toInt64 = 0
    · rw [if_pos h2, if_pos h2, bnd_t, if_pos rfl]; exact h.no _
    · rw [if_neg h2, if_neg h2, bnd_t, if_neg (show ¬ (1 : Int32) = 0 by decide)]
      by_cases h3 : wi z.toInt64 (0 : Int64) (nI (nF (rw_ rt (QQ κ) i)) - 1).toInt64 = 0
      · rw [if_pos h3, if_pos h3, bnd_t, if_pos rfl]; exact h.no _
      · obtain ⟨f, hf, rfl⟩ := wi0' (by omega) h2
        obtain ⟨g, hg, rfl⟩ := wi0' (by omega) h3
        obtain ⟨d2, z1, z2, z3, z4⟩ := d_find (κ := κ) (Z := kB (kt κ) + 65) hS.1 hS.2.1 (Or.inr (by unfold HA; omega))
        obtain ⟨v, d3, r3, D', y1, y2, y3, y4, y5, y6⟩ := q_walk (κ := κ) hS.2.1 hS.2.2 z2 rfl hf
        have e : f_Nb_stepsTo κ (kB (kt κ) + 65) (nI g) d3 = gi r3 (QQ κ + 19) g := by
          unfold f_Nb_stepsTo
          rw [gat_n (j := g) rfl (by omega) (by decide), (y4 g hg).1, (y4 g hg).2]
        rw [if_neg h3, if_neg h3, bnd_t, if_neg (show ¬ (1 : Int32) = 0 by decide), z1, bnd_t, y1, y2, bnd2_t, bnd2_t, grd_t (vp_in_nI (by omega) (by decide)), nI_clamp (by omega), e]
        exact h.scOut _ ((z4.mono (fun p j z => nb_sc z)).tr (y5.mono (fun p j z => wk_sc z))) (y6.mono (fun p j z => wq_sc z))
  · rw [e1, bnd_t, nulN, facet_no e2, bnd_t, if_pos rfl]; exact h.no _
theorem x_heart (h : GRc κ C n T m dt rt) (x y : Int32) : OUT κ dt rt (f_X_heart κ (kB (kt κ)) x y dt) (f_R_heart κ (QQ κ) x y rt) := by
  unfold f_X_heart f_R_heart
  simp only [jn_e]
  rcases h.pl x with ⟨i, hi, rfl, e1, e2⟩ | ⟨e1, e2⟩
  · have hm := h.m6
    have hS := h.sr hi
    rw [e1, e2, bnd_t, nulS, grd_t hS.1.1, if_neg (show ¬ (1 : Int32) = 0 by decide)]
    by_cases h2 : wi y.toInt64 (0 : Int64) (1 : Int64) = 0
    · rw [if_pos h2, if_pos h2]; exact h.no _
    · obtain ⟨d2, z1, z2, z3, z4⟩ := d_find (κ := κ) (Z := kB (kt κ) + 65) hS.1 hS.2.1 (Or.inr (by unfold HA; omega))
      obtain ⟨v, d3, r3, y1, y2, y3, y4⟩ := q_heart (κ := κ) z2 rfl hS.2.1 hS.2.2 y
      rw [if_neg h2, if_neg h2, z1, bnd_t, y1]
      exact (show _ = some (v, r3) from y2) ▸ h.scOut v ((z4.mono (fun p j z => nb_sc z)).tr (y3.mono (fun p j z => wk_sc z))) (y4.mono (fun p j z => wq_sc z))
  · rw [e1, e2, bnd_t, nulN, if_pos rfl]; exact h.no _
end Mut2
