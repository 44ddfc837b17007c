/-! a pressing: each class by itself, one answer and one row -/
noncomputable def crK2 : Nat → Int32 → Int32 → AS → Option (Int32 × AS) := fun v39 v41 v42 s43 => some (v41, (gput s43 (v39 + 3) 61 (gi s43 v39 10) v42))
noncomputable def crK1 (κ : Ko) : Nat → Int32 → Int32 → AS → Option (Int32 × AS) := fun v7 v9 v10 s11 => L_Sh_crush_75 κ crK2 FU v7 v9 v10 (gi s11 v7 11) (0 : Int32) (0 : Int32) (0 : Int32) s11
theorem crush_e (κ : Ko) (a : Nat) (x : Int32) (st : AS) : f_Sh_crush κ a x st = if (gi st a 10) < 60 then bnd (f_Sh_lengthOfRounds κ a (0 : Int32) (60 : Int32) (ui st a 10 ((gi st a 10) + 1))) (fun v1 => L_Sh_crush_31 κ (crK1 κ) FU a x v1 (0 : Int32) (ui st a 10 ((gi st a 10) + 1))) else some (((-1) : Int32), st) := rfl
noncomputable def prK (κ : Ko) : Nat → Int32 → Int32 → Int32 → AS → Option (Int32 × AS) := fun v13 v15 v16 v17 s18 => bnd (f_R_sheetOf κ v13 v15 (6 : Int32) s18) (fun v19 => L_R_presses_116 κ FU v13 v15 v16 v17 v19 (0 : Int32) (0 : Int32) s18)
theorem presses_e (κ : Ko) (a0 : Nat) (x1 x2 : Int32) (st : AS) : f_R_presses κ a0 x1 x2 st = bnd2 (f_R_expects κ a0 x1 x2 (0 : Int32) st) (fun v1 s2 => bnd (f_R_together κ a0 x1 s2) (fun v3 => grd (vp_in (((3680 : Int32) * x1) + 5) 25760) (grd (vp_in (((3680 : Int32) * x1) + 5) 25760) (bnd (f_R_sheetOf κ a0 x1 (5 : Int32) (ui s2 (a0 + 14) (((3680 : Int32) * x1) + 5 : Int32).toNatClampNeg ((gi s2 (a0 + 14) (((3680 : Int32) * x1) + 5 : Int32).toNatClampNeg) + 1))) (fun v6 => grd (vp_in ((((3680 : Int32) * x1) + 3610) + v6) 25760) (L_R_presses_56 κ (prK κ) FU a0 x1 x2 v3 (0 : Int32) (ui (ui s2 (a0 + 14) (((3680 : Int32) * x1) + 5 : Int32).toNatClampNeg ((gi s2 (a0 + 14) (((3680 : Int32) * x1) + 5 : Int32).toNatClampNeg) + 1)) (a0 + 14) ((((3680 : Int32) * x1) + 3610) + v6 : Int32).toNatClampNeg v1))))))) := rfl
noncomputable def prT (S : Nat → Int32) : Int32 := totL S (nR S) 0 0
noncomputable def prF (L : List (Nat × Nat)) (K : List c4) (x : Int32) (S : Nat → Int32) : Int32 := exs S L K (nI (rD S + 1)) x (prT S) true (nF S) 0 0
noncomputable def prV (L : List (Nat × Nat)) (K : List c4) (x : Int32) (S : Nat → Int32) : Int32 := (crs L K x (prT S) (nF S) 0 0 (prS S)).2
noncomputable def prR (L : List (Nat × Nat)) (K : List c4) (x : Int32) (S : Nat → Int32) : Nat → Int32 := setS (crs L K x (prT S) (nF S) 0 0 (prS S)).1 (3610 + (rD S + 1)) (prF L K x S)
theorem used_c {S : Nat → Int32} {m n : Nat} {g : Int32} (hm : 3610 ≤ m) (hn : n ≤ 400) : usedS (setS S m g) n = setS (usedS S n) m g := by
  funext k
  unfold usedS setS
  by_cases e : k = m
  · rw [if_pos e, if_neg (by omega), if_pos e]
  · rw [if_neg e, if_neg e]
theorem prS_nF {S : Nat → Int32} : nF (prS S) = nF S := by unfold nF; rw [prS_at (by decide) (by omega)]
theorem prS_nR {S : Nat → Int32} : nR (prS S) = nR S := by unfold nR; rw [prS_at (by decide) (by omega)]
theorem prR_ok {L : List (Nat × Nat)} {K : List c4} {x : Int32} {S : Nat → Int32} (hk : SOK S) (hU : UOK S) (hr : rD S < 60) : SOK (prR L K x S) ∧ UOK (prR L K x S) ∧ prR L K x S 2 = S 2 ∧ prR L K x S 5 = nI (rD S + 1) := by
  obtain ⟨k1, k2⟩ := prS_ok hk hU hr
  obtain ⟨c1, c2, c3, c4⟩ := crs_ok (L := L) (K := K) (tg := x) (tot := prT S) (nF S) 0 0 (prS S) (by rw [prS_nF]; omega) k1 k2
  unfold prR
  refine ⟨sok_c c1 (by omega), uok_c c1 c2 (by omega), ?_, ?_⟩
  · rw [st_at (by omega), c3, prS_at (by decide) (by omega)]
  · rw [st_at (by omega), c4, prS_5]
section Press2
variable {κ : Ko} {a q s : Nat} {S : Nat → Int32} {L : List (Nat × Nat)} {K : List c4}
theorem d_crush {dt : AS} (h : ShD κ dt a S) (hk : SOK S) (hU : UOK S) (hr : rD S < 60) (hL : LWT L K) (hl : LWD dt (LA κ (S 2).toNatClampNeg) L K) (ha : a + 4 < LA κ (S 2).toNatClampNeg) (x : Int32) :
    ∃ dt', f_Sh_crush κ a x dt = some (prV L K x S, dt') ∧ ShD κ dt' a (prR L K x S) ∧ Same (shW κ a) dt dt' := by
  have h6 := sok_6 hk
  have h7 := sok_7 hk
  have h2 := (sok_2 hk).2
  have e5 : S 5 = nI (rD S) := ((hk.1.2.2.2.2.2.1).cl (by decide)).1
  have s1 := round_sh h hr h6.2.1 h7.2
  have hm : 3610 ≤ 3610 + (rD S + 1) := by omega
  obtain ⟨k1, k2⟩ := prS_ok hk hU hr
  generalize gi dt (a + 3) (rD S + 1) = g at s1
  have w1 : Same (shW κ a) dt (ui dt a 10 (nI (rD S + 1))) := (Same.rf _ _).ui (shW_0 (by decide))
  rw [crush_e, h.2.1.2.2.2.2.1, e5, if_pos (nI_ltk (m := rD S) (k := 60) (y := 60) rfl (by omega) (by decide) |>.1.mpr hr), nI_1]
  generalize ui dt a 10 (nI (rD S + 1)) = d1 at *
  have n7 : nR (setS (setS S 5 (nI (rD S + 1))) (3610 + (rD S + 1)) g) = nR S := by
    rw [nR_c hm]; unfold nR; rw [st_at (by decide)]
  have n6 : nF (setS (setS S 5 (nI (rD S + 1))) (3610 + (rD S + 1)) g) = nF S := by
    rw [nF_c hm]; unfold nF; rw [st_at (by decide)]
  have e7 : setS (setS S 5 (nI (rD S + 1))) (3610 + (rD S + 1)) g 7 = nI (nR (setS (setS S 5 (nI (rD S + 1))) (3610 + (rD S + 1)) g)) := by
    rw [n7, st_at (by omega), st_at (by decide)]; exact h7.1
  have hR' : nR (setS (setS S 5 (nI (rD S + 1))) (3610 + (rD S + 1)) g) ≤ 400 := by rw [n7]; exact h7.2
  have t1 := d_tot s1 e7 hR' (fun r hr' => by
    rw [n7] at hr'
    rw [st_at (by omega), st_at (by omega)]
    exact (hk.2.2.1 r hr').2.2.2.2.1)
  rw [n7, totL_eq (S := setS (setS S 5 (nI (rD S + 1))) (3610 + (rD S + 1)) g) (T := S) (nR S) 0 0 (fun r _ hr' => by
    rw [st_at (by omega), st_at (by omega), st_at (by omega), st_at (by omega)]; exact ⟨rfl, rfl⟩)] at t1
  rw [t1, bnd_t]
  obtain ⟨d2, u1, u2, u3⟩ := d_used s1 e7 hR' (by rw [n6]; exact h6.2.1) x (totL S (nR S) 0 0) (crK1 κ)
  rw [n7, used_c hm h7.2] at u2
  rw [u1]
  have u2' : ShD κ d2 a (setS (prS S) (3610 + (rD S + 1)) g) := u2
  have f11 : gi d2 a 11 = nI (nF S) := by
    rw [u2'.2.1.2.2.2.2.2.1, st_at (by omega), prS_at (by decide) (by omega)]; exact h6.1
  unfold crK1
  rw [f11]
  have hl2 : LWD d2 (LA κ (S 2).toNatClampNeg) L K := LWD.sh hl (by omega) (Or.inl ha) (w1.tr u3)
  have e2 : ((setS (prS S) (3610 + (rD S + 1)) g) 2).toNatClampNeg = (S 2).toNatClampNeg := by rw [st_at (by omega), prS_at (by decide) (by omega)]
  have p6 : nF (setS (prS S) (3610 + (rD S + 1)) g) = nF S := by rw [nF_c hm, prS_nF]
  obtain ⟨d3, v1, v2, v3, v4⟩ := d_crL (tg := x) (tot := totL S (nR S) 0 0) hL (S 2).toNatClampNeg (by omega) (Or.inl ha) (nF S) crK2 (nF S) 0 FU 0 0 _ d2 (by omega) (FUn (by omega)) (by omega) u2' (sok_c k1 hm) e2 hl2
  have hc := crs_c (L := L) (K := K) (tg := x) (tot := totL S (nR S) 0 0) (g := g) hm (nF S) 0 0 (prS S) (by rw [prS_nF]; omega) k1
  have hf := fts_exs (L := L) (K := K) (tg := x) (tot := totL S (nR S) 0 0) (S0 := S) (rd := nI (rD S + 1)) (nF S) 0 0 (setS (prS S) (3610 + (rD S + 1)) g) (Nat.zero_add _) (by omega) (sok_c k1 hm) (by rw [st_at (by omega), prS_5]) (by rw [st_at (by omega), prS_at (by decide) (by omega)]) (by rw [st_at (by omega), prS_at (by decide) (by omega)]) (fun u _ hu j hj => by rw [st_at (by omega), prS_at (by omega) (by omega)])
  rw [hf, hc] at v1
  rw [hc] at v2
  refine ⟨ui d3 (a + 3) (rD S + 1) (prF L K x S), v1.trans ?_, ?_, ((w1.tr u3).tr v4).tr ?_⟩
  rotate_left
  · obtain ⟨c1, c2, c3, c4⟩ := crs_ok (L := L) (K := K) (tg := x) (tot := prT S) (nF S) 0 0 (prS S) (by rw [prS_nF]; omega) k1 k2
    exact fore_sh v2 (sok_6 c1).2.1 (sok_7 c1).2
  · exact (Same.rf _ _).ui (shW_1 3 (by decide) (by decide))
  · obtain ⟨c1, c2, c3, c4⟩ := crs_ok (L := L) (K := K) (tg := x) (tot := prT S) (nF S) 0 0 (prS S) (by rw [prS_nF]; omega) k1 k2
    have g10 : gi d3 a 10 = nI (rD S + 1) := by
      have v2' : ShD κ d3 a (setS (crs L K x (totL S (nR S) 0 0) (nF S) 0 0 (prS S)).1 (3610 + (rD S + 1)) g) := v2
      rw [v2'.2.1.2.2.2.2.1, st_at (by omega)]
      exact c4.trans prS_5
    unfold crK2
    rw [g10, gput_n (j := rD S + 1) rfl (by omega) (by decide)]
    rfl
theorem r_presses {rt : AS} (h : rw_ rt q s = S) (hs : s < 7) (hk : SOK S) (hU : UOK S) (hr : rD S < 60) (hL : LWT L K) (hl : LWQ rt q (S 2).toNatClampNeg L K) (x : Int32) :
    ∃ rt', f_R_presses κ q (nI s) x rt = some (prV L K x S, rt') ∧ rw_ rt' q s = prR L K x S ∧ Same (brQ q s) rt rt' := by
  have h6 := sok_6 hk
  have h7 := sok_7 hk
  have h2 := (sok_2 hk).2
  have e5 : S 5 = nI (rD S) := ((hk.1.2.2.2.2.2.1).cl (by decide)).1
  have hm : 3610 ≤ 3610 + (rD S + 1) := by omega
  obtain ⟨k1, k2⟩ := prS_ok hk hU hr
  rw [presses_e]
  unfold f_R_expects
  rw [r_tot h hs h7.1 h7.2, bnd_t]
  obtain ⟨t1, x1, w1⟩ := r_expL (κ := κ) hk hL hs x (totL S (nR S) 0 0) 0 (nF S) 0 FU 0 rt (by omega) (FUn (by omega)) h hl
  rw [show nI 0 = (0 : Int32) from rfl] at x1
  rw [x1, bnd2_t, e5, nI_1]
  have hS1 : rw_ t1 q s = S := rw_fr h w1 (fun j z => by unfold exQ at z; omega)
  have w1' : Same (brQ q s) rt t1 := w1.mono (fun _ _ z => Or.inr z)
  rw [r_tot hS1 hs h7.1 h7.2, bnd_t, show (5 : Int32) = nI 5 from rfl, ixS, grd_t (vp_in_nI (by omega) (by decide)), grd_t (vp_in_nI (by omega) (by decide)), nI_clamp (by omega), giS, hS1, e5, nI_1]
  have hS2 : rw_ (ui t1 (q + 14) (3680 * s + 5) (nI (rD S + 1))) q s = setS S 5 (nI (rD S + 1)) := by rw [rw_ui, hS1]
  have w2 : Same (brQ q s) t1 (ui t1 (q + 14) (3680 * s + 5) (nI (rD S + 1))) := (Same.rf _ _).ui (Or.inl ⟨rfl, by omega, by omega, by omega⟩)
  generalize ui t1 (q + 14) (3680 * s + 5) (nI (rD S + 1)) = t2 at *
  rw [rs_any (k := 5) (y := nI 5) hS2 hs (by decide) rfl, bnd_t, show setS S 5 (nI (rD S + 1)) 5 = nI (rD S + 1) from if_pos rfl, ixT, grd_t (vp_in_nI (by omega) (by decide)), nI_clamp (by omega)]
  have ef : exs S L K (nI (rD S + 1)) x (totL S (nR S) 0 0) (decide ((0 : Int32) = 0)) (nF S) 0 0 = prF L K x S := rfl
  rw [ef]
  have hS3 : rw_ (ui t2 (q + 14) (3680 * s + (3610 + (rD S + 1))) (prF L K x S)) q s = setS (setS S 5 (nI (rD S + 1))) (3610 + (rD S + 1)) (prF L K x S) := by rw [rw_ui, hS2]
  have w3 : Same (brQ q s) t2 (ui t2 (q + 14) (3680 * s + (3610 + (rD S + 1))) (prF L K x S)) := (Same.rf _ _).ui (Or.inl ⟨rfl, by omega, by omega, by omega⟩)
  generalize ui t2 (q + 14) (3680 * s + (3610 + (rD S + 1))) (prF L K x S) = t3 at *
  generalize hg : prF L K x S = g at *
  have n7 : nR (setS (setS S 5 (nI (rD S + 1))) (3610 + (rD S + 1)) g) = nR S := by
    rw [nR_c hm]; unfold nR; rw [st_at (by decide)]
  have e7 : setS (setS S 5 (nI (rD S + 1))) (3610 + (rD S + 1)) g 7 = nI (nR (setS (setS S 5 (nI (rD S + 1))) (3610 + (rD S + 1)) g)) := by
    rw [n7, st_at (by omega), st_at (by decide)]; exact h7.1
  obtain ⟨t4, u1, u2, u3⟩ := r_used hs hS3 e7 (by rw [n7]; exact h7.2) x (totL S (nR S) 0 0) (prK κ)
  rw [u1]
  rw [n7, used_c hm h7.2] at u2
  have u2' : rw_ t4 q s = setS (prS S) (3610 + (rD S + 1)) g := u2
  have f6 : setS (prS S) (3610 + (rD S + 1)) g 6 = nI (nF S) := by rw [st_at (by omega), prS_at (by decide) (by omega)]; exact h6.1
  unfold prK
  rw [rs_any (k := 6) (y := 6) u2' hs (by decide) rfl, bnd_t, f6]
  have w4 : Same (brQ q s) rt t4 := ((w1'.tr w2).tr w3).tr (fr_br u3)
  have e2 : ((setS (prS S) (3610 + (rD S + 1)) g) 2).toNatClampNeg = (S 2).toNatClampNeg := by rw [st_at (by omega), prS_at (by decide) (by omega)]
  have p6 : nF (setS (prS S) (3610 + (rD S + 1)) g) = nF S := by rw [nF_c hm, prS_nF]
  obtain ⟨t5, v1, v2, v3⟩ := r_crL (κ := κ) (tg := x) (tot := totL S (nR S) 0 0) hs hL (S 2).toNatClampNeg (by omega) (nF S) (nF S) 0 FU 0 _ t4 (by omega) (FUn (by omega)) (by omega) u2' (sok_c k1 hm) e2 (hl.br w4)
  have hc := crs_c (L := L) (K := K) (tg := x) (tot := totL S (nR S) 0 0) (g := g) hm (nF S) 0 0 (prS S) (by rw [prS_nF]; omega) k1
  rw [hc] at v1 v2
  refine ⟨t5, v1, ?_, w4.tr v3⟩
  rw [v2]
  unfold prR
  rw [hg]
  rfl
end Press2
