/-! runs, until: both classes -/
section Trial2
variable {κ : Ko} {C : Nat → Nat} {n m : Nat} {T : Nat → Nat} {dt rt dt' rt' : AS}
theorem x_runs (h : GRc κ C n T m dt rt) (x1 x2 x3 x4 x5 : Int32) : OUT κ dt rt (f_X_runs κ (kB (kt κ)) x1 x2 x3 x4 x5 dt) (f_R_runs κ (QQ κ) x1 x2 x3 x4 x5 rt) := by
  have z10 : ¬ (1 : Int32) = 0 := by decide
  unfold f_X_runs f_R_runs
  simp only [jn_e, ite_self, if_true, eq_false z10, if_false]
  rcases h.doingAt x1 with ⟨k, hk, rfl, d1, d2, d3⟩ | ⟨d1, d3⟩
  · rw [d1, d3, bnd_t, bnd_t, nulS, grd_t d2, if_neg z10]
    rcases h.pl x2 with ⟨i, hi, rfl, e1, e2⟩ | ⟨e1, e2⟩
    · rw [e1, e2, bnd_t, nulS, grd_t (h.sr hi).1.1, if_neg z10]
      by_cases c1 : x3 < 0
      · rw [if_pos c1, if_pos c1]; exact h.no _
      · rw [if_neg c1, if_neg c1]
        by_cases c2 : wi x4.toInt64 (1 : Int64) (10 : Int64) = 0
        · rw [if_pos c2, if_pos c2]; exact h.no _
        · rw [if_neg c2, if_neg c2]
          by_cases c3 : wi x5.toInt64 (0 : Int64) (99999 : Int64) = 0
          · rw [if_pos c3, if_pos c3]; exact h.no _
          · obtain ⟨N, N1, N2, rfl⟩ := wi1 (c := 10) (by decide) rfl c2
            have hN0 : ¬ nI N ≤ 0 := nI_ge (a := 0) (by omega) (by omega)
            obtain ⟨s1, r1, u1, u2, t1, w1, w2⟩ := h.fresh hi (Int32.not_lt.mp c1)
            obtain ⟨v, s2, r2, y1, y2, y3, y4⟩ := q_runsL (κ := κ) (C := C) (n := n) (m := m) (T := T) N2 x5 (N - 1) 0 FU FU 0 s1 r1 (by omega) (FUn (by omega)) (FUn (by omega)) (h.sc w1 w2) t1 hi hk
            have y1' : L_X_runs_98 κ FU (kB (kt κ)) (nI N) x5 (DA κ k) (HA κ i) 0 0 s1 = some (v, s2) := y1
            have y2' : L_R_runs_72 κ FU (QQ κ) (nI k) (nI i) (nI N) x5 0 0 r1 = some (v, r2) := y2
            rw [if_neg c3, if_neg c3, if_neg hN0, if_neg hN0, u1, u2, bnd_t, bnd_t, y1', y2']
            exact h.scOut _ (w1.tr y3) (w2.tr y4)
    · rw [e1, e2, bnd_t, nulN, if_pos rfl]; exact h.no _
  · rw [d1, d3, bnd_t, bnd_t, nulN, if_pos rfl]
    rcases h.pl x2 with ⟨i, hi, rfl, e1, e2⟩ | ⟨e1, e2⟩
    · rw [e1, bnd_t, nulS, grd_t (h.sr hi).1.1]; exact h.no _
    · rw [e1, bnd_t, nulN]; exact h.no _
theorem q_untilL (x2 : Int32) {x3 : Int32} (hx : 0 ≤ x3) : ∀ c t d d' dt rt, rD (rw_ rt (QQ κ) 6) + c = 60 → c < d → c < d' → t ≤ rD (rw_ rt (QQ κ) 6) → GRc κ C n T m dt rt → TRI κ C dt rt →
    ∃ v dt' rt', L_X_until_48 κ d (kB (kt κ)) x2 x3 (nI t) dt = some (v, dt') ∧ L_R_until_44 κ d' (QQ κ) x2 x3 (nI t) rt = some (v, rt') ∧ Same (scD κ) dt dt' ∧ Same (scQ κ) rt rt' := by
  intro c
  induction c with
  | zero =>
    intro t d d' dt rt hc hd hd' ht h tr
    obtain ⟨d, rfl⟩ : ∃ z, d = z + 1 := ⟨d - 1, by omega⟩
    obtain ⟨d', rfl⟩ : ∃ z, d' = z + 1 := ⟨d' - 1, by omega⟩
    obtain ⟨g, g1, g2⟩ := q_fine tr.1 x3 hx
    have g2' : f_R_isFine κ (QQ κ) 6 x3 rt = some (if g ≤ x3 then 1 else 0) := g2
    have hrd := tr.1.rd
    have r5 : f_R_sheetOf κ (QQ κ) 6 5 rt = some (nI (rD (rw_ rt (QQ κ) 6))) := by rw [← hrd.1]; exact r_sheet (s := 6) (k := 5) (y := 5) (by decide) (by decide) rfl
    have h60 : ¬ (60 : Int32) < nI t := fun z => by have := (nI_ltI (a := 60) (by decide) (by omega)).mp z; omega
    rw [L_X_until_48, L_R_until_44, if_neg h60, g1, bnd_t, g2', bnd_t]
    by_cases e : g ≤ x3
    · rw [if_pos e, if_pos e, if_neg (show ¬ (1 : Int32) = 0 by decide)]
      exact ⟨_, dt, rt, rfl, rfl, Same.rf _ _, Same.rf _ _⟩
    · rw [if_neg e, if_neg e, if_pos rfl, r5, bnd_t, if_pos (show nI (rD (rw_ rt (QQ κ) 6)) = 60 by rw [show rD (rw_ rt (QQ κ) 6) = 60 by omega]; rfl), crush_full tr.1 (by omega), bnd2_t, if_pos rfl]
      exact ⟨_, dt, rt, rfl, rfl, Same.rf _ _, Same.rf _ _⟩
  | succ c ih =>
    intro t d d' dt rt hc hd hd' ht h tr
    obtain ⟨d, rfl⟩ : ∃ z, d = z + 1 := ⟨d - 1, by omega⟩
    obtain ⟨d', rfl⟩ : ∃ z, d' = z + 1 := ⟨d' - 1, by omega⟩
    obtain ⟨g, g1, g2⟩ := q_fine tr.1 x3 hx
    have g2' : f_R_isFine κ (QQ κ) 6 x3 rt = some (if g ≤ x3 then 1 else 0) := g2
    have hrd := tr.1.rd
    have r5 : f_R_sheetOf κ (QQ κ) 6 5 rt = some (nI (rD (rw_ rt (QQ κ) 6))) := by rw [← hrd.1]; exact r_sheet (s := 6) (k := 5) (y := 5) (by decide) (by decide) rfl
    have h60 : ¬ (60 : Int32) < nI t := fun z => by have := (nI_ltI (a := 60) (by decide) (by omega)).mp z; omega
    rw [L_X_until_48, L_R_until_44, if_neg h60, g1, bnd_t, g2', bnd_t]
    by_cases e : g ≤ x3
    · rw [if_pos e, if_pos e, if_neg (show ¬ (1 : Int32) = 0 by decide)]
      exact ⟨_, dt, rt, rfl, rfl, Same.rf _ _, Same.rf _ _⟩
    · obtain ⟨L, K, hX⟩ := (h.tlaw tr).x
      obtain ⟨c', s2, r2, p1, p2, p3, p4, p5, p6, p7, p8, p9⟩ := q_press tr.1 tr.2.1 (by omega) hX (by unfold LA; omega) x2
      have p2' : f_R_presses κ (QQ κ) 6 x2 rt = some (nI c', r2) := p2
      have w1 : Same (scD κ) dt s2 := p8.mono (fun p j z => shW_T z)
      have w2 : Same (scQ κ) rt r2 := p9.mono (fun p j z => brQ_T z)
      have erd : rD (rw_ r2 (QQ κ) 6) = rD (rw_ rt (QQ κ) 6) + 1 := by
        have : rD (rw_ r2 (QQ κ) 6) = (nI (rD (rw_ rt (QQ κ) 6) + 1)).toNatClampNeg := congrArg Int32.toNatClampNeg p7
        rw [this]; exact nI_clamp (by omega)
      obtain ⟨v, s3, r3, y1, y2, y3, y4⟩ := ih (t + 1) d d' s2 r2 (by omega) (by omega) (by omega) (by omega) (h.sc w1 w2) ⟨p4, p5, by rw [p6]; exact tr.2.2⟩
      rw [if_neg e, if_neg e, if_pos rfl, r5, bnd_t, if_neg (show ¬ nI (rD (rw_ rt (QQ κ) 6)) = 60 from fun z => by have := (nI_eq (b := 60) (by omega) (by decide)).mp z; omega), p1, p2', bnd2_t, bnd2_t, if_neg (nI_ne1 (by omega)), nI_1]
      exact ⟨v, s3, r3, y1, y2, w1.tr y3, w2.tr y4⟩
theorem x_until (h : GRc κ C n T m dt rt) (x y z : Int32) : OUT κ dt rt (f_X_until κ (kB (kt κ)) x y z dt) (f_R_until κ (QQ κ) x y z rt) := by
  unfold f_X_until f_R_until f_X_isTight
  simp only [jn_e]
  rcases h.pl x with ⟨i, hi, rfl, e1, e2⟩ | ⟨e1, e2⟩
  · have hS := h.sr hi
    rw [e1, e2, bnd_t, nulS, grd_t hS.1.1, if_neg (show ¬ (1 : Int32) = 0 by decide)]
    by_cases h2 : wi y.toInt64 (1 : Int64) (99 : Int64) = 0
    · rw [if_pos h2, if_pos h2]; exact h.no _
    · rw [if_neg h2, if_neg h2]
      by_cases h3 : wi z.toInt64 (1 : Int64) (200 : Int64) = 0
      · rw [if_pos h3, if_pos h3]; exact h.no _
      · obtain ⟨g, g1, g2, rfl⟩ := wi1 (c := 200) (by decide) rfl h3
        obtain ⟨s1, r1, a1, a2, t1, w1, w2, -⟩ := h.cpy hi
        have hrd := t1.1.rd
        obtain ⟨v, s2, r2, y1, y2, y3, y4⟩ := q_untilL (κ := κ) (C := C) (n := n) (m := m) (T := T) y (x3 := nI g) (nI_ge0 (by omega)) (60 - rD (rw_ r1 (QQ κ) 6)) 0 FU FU s1 r1 (by omega) (FUn (by omega)) (FUn (by omega)) (Nat.zero_le _) (h.sc w1 w2) t1
        have y1' : L_X_until_48 κ FU (kB (kt κ)) y (nI g) 0 s1 = some (v, s2) := y1
        have y2' : L_R_until_44 κ FU (QQ κ) y (nI g) 0 r1 = some (v, r2) := y2
        rw [if_neg h3, if_neg h3, a1, a2, bnd_t, bnd_t, y1', y2']
        exact h.scOut _ (w1.tr y3) (w2.tr y4)
  · rw [e1, e2, bnd_t, nulN, if_pos rfl]; exact h.no _
end Trial2
