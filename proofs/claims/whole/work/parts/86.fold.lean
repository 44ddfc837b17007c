/-! a fold, with what stays of it -/
theorem uok_ridge2 {S S' : Nat → Int32} {w p f t k : Int32} (hU : UOK S) (hR : nR S < 400) (h : ∀ j, 810 ≤ j → S' j = S j) (e7 : nR S' = nR S) (e5 : S' 5 = S 5) : UOK (ridgeS S' (nR S) w p f t k) := fun r hr => by
  have e : nR (ridgeS S' (nR S) w p f t k) = nR S + 1 := by unfold nR at hR ⊢; rw [ridgeS_7, nI_clamp (by omega)]
  rw [e] at hr
  have e5' : rD (ridgeS S' (nR S) w p f t k) = rD S := by unfold rD; rw [ridgeS_lo (by decide) (by decide), e5]
  rw [e5']
  by_cases z : r = nR S
  · unfold rN
    rw [z, ridgeS_new6, show (1 : Int32) = nI 1 from rfl, nI_clamp (by decide)]
    omega
  · have : rN (ridgeS S' (nR S) w p f t k) r 6 = rN S r 6 := by
      unfold rN
      rw [ridgeS_old (by omega) (by decide), h _ (by omega)]
    rw [this]
    exact hU r (by omega)
section Fold
variable {κ : Ko}
theorem q_cutLoop2 {dt rt : AS} {a q s : Nat} {S : Nat → Int32} (h : ShD κ dt a S) (hS : SOK S) (hs : s < 7) {w px : Nat} (hw : w < 2) (hpx : px ≤ 200) (side : Int32) (hr : rw_ rt q s = ridgeS S (nR S) (nI w) (nI px) 0 side 1) (hc : nF S + cnt (cutB S w (nI px)) (nF S) ≤ 200) (c : Int32) (k : Nat → Int32 → Int32 → Int32 → AS → Option (Int32 × AS)) :
    ∃ dt' rt' S', L_Sh_crease_76 κ k FU a (nI w) (nI px) c (nI (nF S)) 0 dt = k a (nI w) (nI px) c dt' ∧ L_R_foldsAt_121 κ FU q (nI s) (nI w) (nI px) (nI (nF S)) c 0 rt = some (c, rt') ∧ ShD κ dt' a S' ∧ SOK S' ∧ rw_ rt' q s = ridgeS S' (nR S) (nI w) (nI px) 0 side 1 ∧ (∀ j, (j < 10 ∨ 810 ≤ j) → j ≠ 6 → S' j = S j) ∧ Same (shW κ a) dt dt' ∧ FrR q s rt rt' := by
  have hF := hS.nF
  refine lk2 (fun d (t : AS × AS) i => L_Sh_crease_76 κ k d a (nI w) (nI px) c (nI (nF S)) i t.1) (fun d t i => L_R_foldsAt_121 κ d q (nI s) (nI w) (nI px) (nI (nF S)) c i t.2) (fun x y => ∃ dt' rt' S', x = k a (nI w) (nI px) c dt' ∧ y = some (c, rt') ∧ ShD κ dt' a S' ∧ SOK S' ∧ rw_ rt' q s = ridgeS S' (nR S) (nI w) (nI px) 0 side 1 ∧ (∀ j, (j < 10 ∨ 810 ≤ j) → j ≠ 6 → S' j = S j) ∧ Same (shW κ a) dt dt' ∧ FrR q s rt rt')
    (fun i t => ∃ S', ShD κ t.1 a S' ∧ SOK S' ∧ rw_ t.2 q s = ridgeS S' (nR S) (nI w) (nI px) 0 side 1 ∧ (∀ j, (j < 10 ∨ 810 ≤ j) → j ≠ 6 → S' j = S j) ∧ Same (shW κ a) dt t.1 ∧ FrR q s rt t.2 ∧ nF S' = nF S + cnt (cutB S w (nI px)) i ∧ ∀ f, i ≤ f → f < nF S → ∀ u, u < 4 → S' (10 + 4 * f + u) = S (10 + 4 * f + u)) (n := nF S) ?_ ?_ (nF S) 0 FU (dt, rt) (by omega) (FUn (by omega)) ⟨S, h, hS, hr, fun _ _ _ => rfl, Same.rf _ _, FrR.rf _ _ _, rfl, fun _ _ _ _ _ => rfl⟩
  · rintro d ⟨d1, r1⟩ ⟨S', g1, g2, g3, g4, g5, g6, -, -⟩
    simp only at g1 g3 g5 g6 ⊢
    rw [L_Sh_crease_76, L_R_foldsAt_121, if_pos (nI_le (Nat.le_refl _) (by omega)), if_pos (nI_le (Nat.le_refl _) (by omega))]
    exact ⟨d1, r1, S', rfl, rfl, g1, g2, g3, g4, g5, g6⟩
  · rintro d ⟨d1, r1⟩ i hi ⟨S', g1, g2, g3, g4, g5, g6, g7, g8⟩ ih
    simp only at g1 g3 g5 g6 ih ⊢
    have hF' := g2.nF
    have hiF : i < nF S' := by omega
    have eB : cutB S' w (nI px) i = cutB S w (nI px) i := by unfold cutB; rw [g8 i (Nat.le_refl _) hi w (by omega), g8 i (Nat.le_refl _) hi (2 + w) (by omega)]
    have eR : cutB (rw_ r1 q s) w (nI px) i = cutB S w (nI px) i := by rw [← eB, g3]; unfold cutB; rw [ridgeS_fac (by omega) (by omega), ridgeS_fac (by omega) (by omega)]
    have h6r : rw_ r1 q s 6 = nI (nF S') := by rw [g3, ridgeS_lo (by decide) (by decide)]; exact hF'.1
    rw [L_Sh_crease_76, L_R_foldsAt_121, if_neg (nI_ge hi (by omega)), if_neg (nI_ge hi (by omega)), d_isCut g1 hiF hF'.2.1 hw, r_isThr hs (by omega) hw, bnd_t, bnd_t, jn_e, jn_e, eB, eR]
    by_cases hb : cutB S w (nI px) i = true
    · rw [if_pos hb, if_neg (show ¬ (1 : Int32) = 0 by decide)]
      have hlt := cnt_lt hi hb
      have rdw : f_Sh_facetPart κ a (nI i) ((0 : Int32) + nI w) d1 = some (S' (10 + 4 * i + w)) := by
        rw [show (0 : Int32) = nI 0 from rfl, nI_add, Nat.zero_add, f_Sh_facetPart_eq, ix4, gat_n rfl (by omega) (by decide)]
        exact congrArg some (g1.2.2.2.1 i hiF w (by omega))
      have rrw : f_R_facetOf κ q (nI s) (nI i) (nI w) r1 = some (S' (10 + 4 * i + w)) := by
        rw [r_facet hs (by omega) (p := w) (by omega) rfl, g3, ridgeS_fac (by omega) (by omega)]
      have hw4 := g2.fn hiF w (by omega)
      have hw5 := g2.fn hiF (2 + w) (by omega)
      have hb2 : cutB S' w (nI px) i = true := by rw [eB]; exact hb
      unfold cutB at hb2
      simp only [decide_eq_true_eq, hw4.1, hw5.1, nI_add] at hb2
      rw [nI_ltI (by omega) (by omega), nI_ltI (by omega) (by omega)] at hb2
      have esub : nI px - S' (10 + 4 * i + w) = nI (px - fN S' i w) := by rw [hw4.1, nI_sub (by omega)]
      obtain ⟨d2, k1, k2, k3⟩ := d_cut (κ := κ) g1 hF'.1 (by omega) hiF hw (nI (px - fN S' i w))
      obtain ⟨r2, l1, l2, l3⟩ := r_cuts (κ := κ) hs h6r (by omega) hiF hw (nI (px - fN S' i w))
      rw [rdw, rrw, bnd_t, bnd_t, esub, k1, l1, bnd_t, bnd_t, nI_1]
      refine ih (d2, r2) ⟨cutS S' (nF S') i w (nI (px - fN S' i w)), k2, g2.cut rfl (by omega) hiF hw (by omega) (by omega), ?_, ?_, g5.tr k3, g6.tr l3, ?_, ?_⟩
      · show rw_ r2 q s = _
        rw [l2, g3, cut_ridge (by omega) hiF]
      · intro j hj h6
        rcases hj with hj | hj
        · rw [cutS_lo hj h6]; exact g4 j (Or.inl hj) h6
        · rw [cutS_hi (by omega) (by omega) hj]; exact g4 j (Or.inr hj) h6
      · rw [cnt_s, if_pos hb]
        rw [cutS_nF (by omega)]
        omega
      · intro f hf1 hf2 u hu
        rw [cutS_old (by omega) (by omega) hu]
        exact g8 f (by omega) hf2 u hu
    · rw [if_neg hb, if_pos rfl, nI_1]
      exact ih (d1, r1) ⟨S', g1, g2, g3, g4, g5, g6, by rw [cnt_s, if_neg hb]; exact g7, fun f hf1 hf2 u hu => g8 f (by omega) hf2 u hu⟩
theorem q_crease2 {dt rt : AS} {a q s : Nat} (h : SR κ dt a rt q s) {w : Nat} (hw : w < 2) (x : Int32) : ∃ v dt' rt', f_Sh_crease κ a (nI w) x dt = some (v, dt') ∧ f_R_foldsAt κ q (nI s) (nI w) x rt = some (v, rt') ∧ SR κ dt' a rt' q s ∧ Same (shW κ a) dt dt' ∧ FrR q s rt rt' ∧ (UOK (rw_ rt q s) → UOK (rw_ rt' q s)) ∧ rw_ rt' q s 2 = rw_ rt q s 2 ∧ (v = -1 ∨ ∃ c, c ≤ 200 ∧ v = nI c) := by
  obtain ⟨hD, hS, hs⟩ := h
  have hF := hS.nF
  have hRR := hS.nR
  have b0 : sN (rw_ rt q s) 0 ≤ 200 ∧ rw_ rt q s 0 = nI (sN (rw_ rt q s) 0) := ⟨((hS.1.1).cl (by decide)).2.2, ((hS.1.1).cl (by decide)).1⟩
  have b1' : sN (rw_ rt q s) 1 ≤ 200 ∧ rw_ rt q s 1 = nI (sN (rw_ rt q s) 1) := ⟨((hS.1.2.1).cl (by decide)).2.2, ((hS.1.2.1).cl (by decide)).1⟩
  have p0 : 2 ≤ sN (rw_ rt q s) 0 := ((hS.1.1).cl (by decide)).2.1
  have p1 : 2 ≤ sN (rw_ rt q s) 1 := ((hS.1.2.1).cl (by decide)).2.1
  have bw : ∀ z, z < 2 → 2 ≤ sN (rw_ rt q s) z ∧ sN (rw_ rt q s) z ≤ 200 ∧ rw_ rt q s z = nI (sN (rw_ rt q s) z) := fun z hz => by
    have hc : z = 0 ∨ z = 1 := by omega
    rcases hc with rfl | rfl
    · exact ⟨p0, b0⟩
    · exact ⟨p1, b1'⟩
  have bww := bw w hw
  have bwo := bw (1 - w) (by omega)
  have h12 : gi dt a 12 = nI (nR (rw_ rt q s)) := by rw [hD.2.1.2.2.2.2.2.2.1]; exact hRR.1
  have h11 : gi dt a 11 = nI (nF (rw_ rt q s)) := by rw [hD.2.1.2.2.2.2.2.1]; exact hF.1
  have hcl : cnt (cutB (rw_ rt q s) w x) (nF (rw_ rt q s)) ≤ nF (rw_ rt q s) := cnt_le _ _
  unfold f_Sh_crease f_R_foldsAt
  rw [d_cutCount hD hF.1 hF.2.1 hw, r_sheet hs (k := w) (by omega) rfl, bnd_t]
  simp only [jn_e, h11, h12]
  rw [bww.2.2, show sN (rw_ rt q s) w = (sN (rw_ rt q s) w - 1) + 1 by omega, nI_pred, show (1 : Int64) = (1 : Int32).toInt64 from rfl]
  simp only [wi_t]
  by_cases hx : (1 : Int32) ≤ x ∧ x ≤ nI (sN (rw_ rt q s) w - 1)
  · rw [if_neg (show ¬ ¬ ((1 : Int32) ≤ x ∧ x ≤ nI (sN (rw_ rt q s) w - 1)) from fun z => z hx), r_sheet hs (k := 7) (y := 7) (by decide) rfl, bnd_t, r_sheet hs (k := 6) (y := 6) (by decide) rfl, bnd_t, hRR.1, hF.1, r_cutCount hs hF.2.1 hw]
    obtain ⟨px, px1, rfl⟩ := nI_of2 (M := nI (sN (rw_ rt q s) w - 1)) (n := sN (rw_ rt q s) w - 1) (by rw [nI_toInt (by omega)]) (fun z => by
      have h1 := hx.1
      rw [i32lt] at z
      rw [i32le] at h1
      have e0 : (0 : Int32).toInt = 0 := rfl
      have e1 : (1 : Int32).toInt = 1 := rfl
      omega) hx.2
    have hx1 : 1 ≤ px := (nI_ltk (m := px) (k := 1) (y := 1) rfl (by omega) (by decide)).2.2.2.1.mp hx.1
    generalize hC : cnt (cutB (rw_ rt q s) w (nI px)) (nF (rw_ rt q s)) = C at *
    have c0 := (nI_ltk (m := C) (k := 0) (y := 0) rfl (by omega) (by decide)).2.2.2.2
    have c200 := (nI_ltk (m := nF (rw_ rt q s) + C) (k := 200) (y := 200) rfl (by omega) (by decide))
    have c400 := (nI_ltk (m := nR (rw_ rt q s)) (k := 400) (y := 400) rfl (by omega) (by decide))
    simp only [nI_add, c0, c200, c400]
    by_cases k1 : C = 0
    · rw [if_pos k1, if_pos k1, ite_self]
      exact ⟨_, dt, rt, rfl, rfl, ⟨hD, hS, hs⟩, Same.rf _ _, FrR.rf _ _ _, id, rfl, Or.inl rfl⟩
    · rw [if_neg k1, if_neg k1]
      by_cases k2 : 200 < nF (rw_ rt q s) + C
      · rw [if_pos k2, if_neg (show ¬ nF (rw_ rt q s) + C ≤ 200 by omega), ite_self]
        exact ⟨_, dt, rt, rfl, rfl, ⟨hD, hS, hs⟩, Same.rf _ _, FrR.rf _ _ _, id, rfl, Or.inl rfl⟩
      · rw [if_neg k2, if_pos (show nF (rw_ rt q s) + C ≤ 200 by omega)]
        by_cases k3 : nR (rw_ rt q s) < 400
        · rw [if_pos k3, if_neg (show ¬ nR (rw_ rt q s) = 400 by omega), r_sheet hs (k := 1 - w) (by omega) (by rw [show (1 : Int32) = nI 1 from rfl, nI_sub (by omega)]), bnd_t]
          obtain ⟨r1, e1, e2, e3⟩ := r_ridgeComes (κ := κ) (rt := rt) hs hRR.1 k3 (nI w) (nI px) 0 (rw_ rt q s (1 - w)) 1
          rw [e1, bnd_t]
          obtain ⟨d2, r2, S', g1, g2, g3, g4, g5, g6, g7, g8⟩ := q_cutLoop2 (κ := κ) (rt := r1) hD hS hs hw (by omega) (rw_ rt q s (1 - w)) e2 (by rw [hC]; omega) (nI C) (fun (v23 : Nat) (v25 : Int32) (v26 : Int32) (v27 : Int32) (s28 : AS) => bnd (f_Sh_addRidge κ v23 v25 v26 (0 : Int32) (f_Sh_side κ v23 (if v25 = 0 then (1 : Int32) else (0 : Int32) : Int32) s28) (1 : Int32) s28) (fun s29 => some (v27, s29)))
          rw [g1, g2]
          have eR' : nR S' = nR (rw_ rt q s) := by unfold nR; rw [g6 7 (Or.inl (by decide)) (by decide)]
          have h7' : S' 7 = nI (nR (rw_ rt q s)) := by rw [g6 7 (Or.inl (by decide)) (by decide)]; exact hRR.1
          have h12' : gi d2 a 12 = nI (nR (rw_ rt q s)) := by rw [g3.2.1.2.2.2.2.2.2.1]; exact h7'
          have h10' : gi d2 a 10 = S' 5 := g3.2.1.2.2.2.2.1
          have eside : f_Sh_side κ a (if nI w = 0 then (1 : Int32) else 0) d2 = rw_ rt q s (1 - w) := by
            unfold f_Sh_side
            have hc : w = 0 ∨ w = 1 := by omega
            rcases hc with rfl | rfl
            · rw [if_pos (show nI 0 = 0 from rfl), if_neg (show ¬ (1 : Int32) = 0 by decide), g3.2.1.2.1, g6 1 (Or.inl (by decide)) (by decide)]
            · rw [if_neg (show ¬ nI 1 = 0 by decide), if_pos rfl, g3.2.1.1, g6 0 (Or.inl (by decide)) (by decide)]
          rw [eside, d_addRidge d2 h12' k3, bnd_t, h10']
          have hsh := ridgeD_sh g3 h7' k3 g4.nF.2.1 (nI w) (nI px) 0 (rw_ rt q s (1 - w)) 1
          have sS' : ∀ z, z < 2 → sN S' z = sN (rw_ rt q s) z := fun z hz => by unfold sN; rw [g6 z (Or.inl (by omega)) (by omega)]
          have hok := g4.ridge (w := w) (p := px) (f := 0) (t := sN (rw_ rt q s) (1 - w)) (k := 1) eR' k3 hw hx1 (by rw [sS' w hw]; omega) (by omega) (by rw [sS' _ (by omega)]; exact Nat.le_refl _) (by decide)
          rw [← bwo.2.2] at hok
          refine ⟨_, _, r2, rfl, rfl, ⟨?_, ?_, hs⟩, g7.tr (ridgeD_same d2 _ _ _ _ _ _ _), e3.tr g8, fun hU => ?_, ?_, Or.inr ⟨C, by omega, rfl⟩⟩
          · rw [g5]; exact hsh
          · rw [g5]; exact hok
          · rw [g5]; exact uok_ridge2 hU k3 (fun j hj => g6 j (Or.inr hj) (by omega)) eR' (g6 5 (Or.inl (by decide)) (by decide))
          · rw [g5, ridgeS_lo (by decide) (by decide), g6 2 (Or.inl (by decide)) (by decide)]
        · rw [if_neg k3, if_pos (show nR (rw_ rt q s) = 400 by omega)]
          exact ⟨_, dt, rt, rfl, rfl, ⟨hD, hS, hs⟩, Same.rf _ _, FrR.rf _ _ _, id, rfl, Or.inl rfl⟩
  · rw [if_pos hx]
    -- nothing is cut outside
    have z0 : cnt (cutB (rw_ rt q s) w x) (nF (rw_ rt q s)) = 0 := by
      have : cnt (cutB (rw_ rt q s) w x) (nF (rw_ rt q s)) ≤ cnt (fun _ => false) (nF (rw_ rt q s)) := by
        refine cnt_mono (fun i hi hb => ?_)
        exfalso
        unfold cutB at hb
        simp only [decide_eq_true_eq] at hb
        have f1 := hS.fn hi w (by omega)
        have f2 := hS.fn hi (2 + w) (by omega)
        rw [f1.1, f2.1, nI_add] at hb
        have hg := hS.2.2.2.1 i hi
        have hsum : fN (rw_ rt q s) i w + fN (rw_ rt q s) i (2 + w) ≤ sN (rw_ rt q s) w := by
          have hc : w = 0 ∨ w = 1 := by omega
          rcases hc with rfl | rfl
          · exact hg.1
          · exact hg.2
        apply hx
        have l1 := hb.1
        have l2 := hb.2
        rw [i32lt, nI_toInt (by omega)] at l1 l2
        rw [i32le, i32le, nI_toInt (by omega)]
        have e1 : (1 : Int32).toInt = 1 := rfl
        omega
      have zz : ∀ m, cnt (fun _ => false) m = 0 := by
        intro m
        induction m with
        | zero => rfl
        | succ m ih => rw [cnt_s, ih]; rfl
      rw [zz] at this
      omega
    rw [z0, if_pos (show nI 0 = 0 from rfl)]
    exact ⟨_, dt, rt, rfl, rfl, ⟨hD, hS, hs⟩, Same.rf _ _, FrR.rf _ _ _, id, rfl, Or.inl rfl⟩
end Fold
theorem uok_turn {S : Nat → Int32} (h6 : nF S ≤ 200) (hU : UOK S) : UOK (turnS S) := fun r hr => by
  have e : nR (turnS S) = nR S := by unfold nR; rw [turnS_lo (by decide) (by decide)]
  have e5 : rD (turnS S) = rD S := by unfold rD; rw [turnS_lo (by decide) (by decide)]
  have e6 : rN (turnS S) r 6 = rN S r 6 := by
    unfold rN turnS turnR
    rw [if_neg (by omega), turnF_at (by omega) (Or.inr (by have := h6; omega))]
  rw [e] at hr
  rw [e5, e6]
  exact hU r hr
section Turn4
variable {κ : Ko} {dt rt : AS} {a q s : Nat}
theorem q_turn2 (h : SR κ dt a rt q s) : ∃ dt' rt', f_Sh_changeSides κ a dt = some dt' ∧ f_R_turns κ q (nI s) rt = some rt' ∧ SR κ dt' a rt' q s ∧ Same (shW κ a) dt dt' ∧ FrR q s rt rt' ∧ rw_ rt' q s = turnS (rw_ rt q s) := by
  obtain ⟨hD, hS, hs⟩ := h
  have hF := hS.nF
  have hR := hS.nR
  have eF : nF (turnF (rw_ rt q s) (nF (rw_ rt q s))) = nF (rw_ rt q s) := by unfold nF; rw [turnF_at (by decide) (Or.inl (by decide))]
  have eR : nR (turnF (rw_ rt q s) (nF (rw_ rt q s))) = nR (rw_ rt q s) := by unfold nR; rw [turnF_at (by decide) (Or.inl (by decide))]
  have e7 : turnF (rw_ rt q s) (nF (rw_ rt q s)) 7 = nI (nR (rw_ rt q s)) := by rw [turnF_at (by decide) (Or.inl (by decide))]; exact hR.1
  have eT : turnR (turnF (rw_ rt q s) (nF (rw_ rt q s))) (nR (turnF (rw_ rt q s) (nF (rw_ rt q s)))) = turnS (rw_ rt q s) := by rw [eR]; rfl
  unfold f_Sh_changeSides f_R_turns
  obtain ⟨d1, g1, g2, g3⟩ := d_turnF (κ := κ) (swap_sh hD) hF.1 hF.2.1 (fun (v18 : Nat) (s20 : AS) => L_Sh_changeSides_90 κ FU v18 (0 : Int32) s20)
  obtain ⟨d2, k1, k2, k3⟩ := d_turnR (κ := κ) g2 (by rw [eR]; exact e7) (by rw [eR]; exact hR.2) (by rw [eF]; exact hF.2.1)
  obtain ⟨r0, a1, a2, a3⟩ := r_exch (κ := κ) (rt := rt) (q := q) hs (j1 := 0) (j2 := 1) (by decide) (by decide) (by decide) (by decide)
  obtain ⟨r1, b1', b2, b3⟩ := r_turnF (κ := κ) (rt := r0) (q := q) (S := rw_ rt q s) hs (by rw [a2, turnF_0]) hF.1 hF.2.1 (fun (v9 : Nat) (v11 : Int32) (s12 : AS) => L_R_turns_68 κ FU v9 v11 (0 : Int32) s12)
  obtain ⟨r2, c1, c2, c3⟩ := r_turnR (κ := κ) (rt := r1) (q := q) hs b2 (by rw [eR]; exact e7) (by rw [eR]; exact hR.2) (fun r hr => by
    rw [eR] at hr
    rw [turnF_at (by omega) (Or.inr (by omega))]
    exact (hS.2.2.1 r hr).1)
  rw [eT] at k2 c2
  refine ⟨d2, r2, ?_, ?_, ⟨by rw [c2]; exact k2, by rw [c2]; exact hS.turn, hs⟩, ?_, (a3.tr b3).tr c3, c2⟩
  · rw [g1]; exact k1
  · rw [ixS0, show nI (3680 * s + 0) + 1 = nI (3680 * s + 1) from nI_1 _, a1, bnd_t, b1']; exact c1
  · exact ((((Same.rf _ dt).ui (shW_0 (by decide))).ui (shW_0 (by decide))).tr g3).tr k3
end Turn4
