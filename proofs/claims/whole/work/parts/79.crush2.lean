/-! a pressing: the reference -/
section Crush2
variable {κ : Ko} {a q s f : Nat} {S : Nat → Int32} {L : List (Nat × Nat)} {K : List c4} {tg tot : Int32}
theorem LWQ.br {rs rs' : AS} {t : Nat} (h : LWQ rs q t L K) (hw : Same (brQ q s) rs rs') : LWQ rs' q t L K := h.fr hw (fun p j z y => by unfold tgQ at z; unfold brQ exQ at y; omega)
theorem r_crL (hs : s < 7) (hL : LWT L K) (l : Nat) (hl6 : l < 6) (th : Nat) : ∀ n f d b S rt, f + n = th → n < d → th ≤ nF S → rw_ rt q s = S → SOK S → (S 2).toNatClampNeg = l → LWQ rt q l L K →
    ∃ rt', L_R_presses_116 κ d q (nI s) tg tot (nI th) b (nI f) rt = some ((crs L K tg tot n f b S).2, rt') ∧ rw_ rt' q s = (crs L K tg tot n f b S).1 ∧ Same (brQ q s) rt rt' := by
  intro n
  induction n with
  | zero =>
    intro f d b S rt hf hd hth h hk h2 hl
    obtain ⟨d, rfl⟩ : ∃ e, d = e + 1 := ⟨d - 1, by omega⟩
    have := sok_6 hk
    rw [L_R_presses_116, if_pos (nI_le (by omega) (by omega))]
    exact ⟨rt, rfl, h, Same.rf _ _⟩
  | succ n ih =>
    intro f d b S rt hf hd hth h hk h2 hl
    obtain ⟨d, rfl⟩ : ∃ e, d = e + 1 := ⟨d - 1, by omega⟩
    have h6 := sok_6 hk
    have h7 := sok_7 hk
    obtain ⟨x1, x2⟩ := x_n hk
    have hdl := drN_lt (sN S 4)
    have hdr := r_draw (κ := κ) (rt := rt) (q := q) (s := s) (n := sN S 4) hs (by rw [h]; exact x1) x2
    have hS1 : rw_ (ui rt (q + 14) (3680 * s + 4) (nI (drN (sN S 4)))) q s = drw S := by rw [rw_ui, h]; rfl
    have hk1 := sok_drw hk
    have w1 : Same (brQ q s) rt (ui rt (q + 14) (3680 * s + 4) (nI (drN (sN S 4)))) := (Same.rf _ _).ui (Or.inl ⟨rfl, by omega, by omega, by omega⟩)
    have hf1 : f < nF (drw S) := by rw [drw_6]; omega
    have hch : nI (drN (sN S 4) / 65536) - nI (drN (sN S 4) / 65536) / 1000 * 1000 = nI (chN S) := pk_rem (d := 1000) (by omega) (by decide) (by decide)
    rw [L_R_presses_116, if_neg (nI_ge (by omega) (by omega)), hdr, bnd2_t]
    generalize ui rt (q + 14) (3680 * s + 4) (nI (drN (sN S 4))) = s1 at *
    obtain ⟨s2, e2, g2, w2⟩ := r_words (κ := κ) (f := f) hS1 hk1 hs hf1 ((drw S) 5) tg tot
    have hS2 := rw_fr hS1 w2 (fun j z => by omega)
    have w2' : Same (brQ q s) rt s2 := w1.tr (w2.mono (fun p j z => Or.inr (Or.inr (Or.inl z))))
    have hl2 := hl.br w2'
    obtain ⟨s3, e3, w3⟩ := r_breaks (κ := κ) (t := l) (by omega) hL.1 hL.2 hl2 g2
    have hS3 := rw_fr hS2 w3 (fun j z => by unfold rkW at z; omega)
    have g3 := rk_w w3 g2
    have w3' : Same (brQ q s) rt s3 := w2'.tr (rk_br w3)
    have hl3 := hl.br w3'
    have ed2 : (drw S) 2 = nI l := by rw [show (drw S) 2 = S 2 from rfl, (sok_2 hk).1, h2]
    rw [rs_any (k := 5) (y := 5) hS1 hs (by decide) rfl, bnd_t, e2, bnd_t, rs_any (k := 2) (y := 2) hS2 hs (by decide) rfl, bnd_t, ed2, e3, bnd2_t, hch]
    rw [jn_e, nI_1]
    have hgl : lngS (drw S) f = lngS S f := lng_x _
    have hFI := nI_ltk (m := nF S) (k := 200) (y := 200) rfl (by omega) (by decide)
    have hRI := nI_ltk (m := nR S) (k := 400) (y := 400) rfl (by omega) (by decide)
    have e11 : (drw S) 6 = nI (nF S) := by rw [← drw_6]; exact (sok_6 hk1).1
    have e12 : (drw S) 7 = nI (nR S) := by rw [← drw_7]; exact (sok_7 hk1).1
    have step0 : ∃ rt', L_R_presses_116 κ d q (nI s) tg tot (nI th) b (nI (f + 1)) s3 = some ((crs L K tg tot n (f + 1) b (drw S)).2, rt') ∧ rw_ rt' q s = (crs L K tg tot n (f + 1) b (drw S)).1 ∧ Same (brQ q s) rt rt' := by
      obtain ⟨d4, z1, z2, z3⟩ := ih (f + 1) d b (drw S) s3 (by omega) (by omega) (by rw [drw_6]; exact hth) hS3 hk1 h2 hl3
      exact ⟨d4, z1, z2, w3'.tr z3⟩
    have eb : brk (wdS (drw S) f ((drw S) 5) tg tot) L K = brT L K tg tot (drw S) f := rfl
    rw [eb]
    by_cases hb : brT L K tg tot (drw S) f ≤ nI (chN S)
    · have hgo : ¬ gos L K tg tot S f = true := by unfold gos; rw [decide_eq_true hb]; simp
      rw [crs, if_neg hgo, if_pos hb]
      exact step0
    · rw [if_neg hb, r_longS hS3 hk1 hs hf1, bnd_t, hgl]
      by_cases hg : lngS S f < 2
      · have hgo : ¬ gos L K tg tot S f = true := by unfold gos; rw [decide_eq_true hg]; simp
        rw [crs, if_neg hgo, if_pos hg]
        exact step0
      · rw [if_neg hg, rs_any (k := 6) (y := 6) hS3 hs (by decide) rfl, bnd_t, e11]
        by_cases hF : nF S < 200
        · rw [if_neg (fun z => by have := hFI.2.2.2.2.mp z; omega), rs_any (k := 7) (y := 7) hS3 hs (by decide) rfl, bnd_t, e12]
          by_cases hR : nR S < 400
          · have hgo : gos L K tg tot S f = true := by unfold gos; rw [decide_eq_false hg, decide_eq_false hb, decide_eq_true hF, decide_eq_true hR]; rfl
            rw [if_neg (fun z => by have := hRI.2.2.2.2.mp z; omega), crs, if_pos hgo]
            obtain ⟨v1, v2, v3, v4, v5⟩ := way_w hk (f := f) (by omega)
            have hlx : LWQ s3 q ((drw S) 2).toNatClampNeg L K := by rw [show (drw S) 2 = S 2 from rfl, h2]; exact hl3
            obtain ⟨s5, e5', h5', w5⟩ := r_brk (κ := κ) (f := f) hS3 hs hk1 hf1 (by rw [drw_6]; exact hF) (by rw [drw_7]; exact hR) v1 ((way_x _).trans v2) (hgl.trans v3) (v5 hg) v4 g3 hlx hL
            rw [e5', bnd_t]
            have hk5 : SOK (brkS (wdS (drw S) f ((drw S) 5) tg tot) L K (drw S) f (wyN S f) (lgN S f)) := by
              have := sok_brkS (w := wdS (drw S) f ((drw S) 5) tg tot) (L := L) (K := K) hk1 hf1 (by rw [drw_6]; exact hF) (by rw [drw_7]; exact hR) (by rw [hgl]; exact hg)
              rw [show wyN (drw S) f = wyN S f from congrArg Int32.toNatClampNeg (way_x _), show lgN (drw S) f = lgN S f from congrArg Int32.toNatClampNeg hgl] at this
              exact this
            obtain ⟨d4, z1, z2, z3⟩ := ih (f + 1) d (b + 1) _ s5 (by omega) (by omega) (by rw [brkS_F (by rw [drw_6]; exact hF), drw_6]; omega) h5' hk5 (by rw [brkS_2]; exact h2) (hl3.br w5)
            exact ⟨d4, z1, z2, (w3'.tr w5).tr z3⟩
          · have hgo : ¬ gos L K tg tot S f = true := by unfold gos; rw [decide_eq_false hR]; simp
            rw [crs, if_neg hgo, if_pos (hRI.2.2.2.2.mpr (by omega))]
            exact step0
        · have hgo : ¬ gos L K tg tot S f = true := by unfold gos; rw [decide_eq_false hF]; simp
          rw [crs, if_neg hgo, if_pos (hFI.2.2.2.2.mpr (by omega))]
          exact step0
end Crush2
