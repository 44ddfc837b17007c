/-! calls that change something: both classes -/
def OUT (κ : Ko) (dt rt : AS) (A B : Option (Int32 × AS)) : Prop := ∃ v dt' rt', A = some (v, dt') ∧ B = some (v, rt') ∧ GR κ dt' rt' ∧ Same (fun p _ => p < QQ κ) dt dt' ∧ Same (fun p _ => QQ κ ≤ p) rt rt'
section Mut
variable {κ : Ko} {C : Nat → Nat} {n m : Nat} {T : Nat → Nat} {dt rt dt' rt' : AS}
theorem GRc.gr (h : GRc κ C n T m dt rt) : GR κ dt rt := ⟨C, n, T, m, h⟩
theorem GRc.no (h : GRc κ C n T m dt rt) (v : Int32) : OUT κ dt rt (some (v, dt)) (some (v, rt)) := ⟨v, dt, rt, rfl, rfl, h.gr, Same.rf _ _, Same.rf _ _⟩
theorem sc_low {p j : Nat} (h : scD κ p j) : p < QQ κ := by unfold scD at h; unfold QQ; omega
theorem sc_hig {p j : Nat} (h : scQ κ p j) : QQ κ ≤ p := by unfold scQ at h; omega
/-- scratch alone was written -/
theorem GRc.scOut (h : GRc κ C n T m dt rt) (v : Int32) (hd : Same (scD κ) dt dt') (hr : Same (scQ κ) rt rt') : OUT κ dt rt (some (v, dt')) (some (v, rt')) :=
  ⟨v, dt', rt', rfl, rfl, (h.sc hd hr).gr, hd.mono (fun _ _ z => sc_low z), hr.mono (fun _ _ z => sc_hig z)⟩
theorem shW_H {i : Nat} (hi : i < 6) {p j : Nat} (h : shW κ (HA κ i) p j) : scD κ p j ∨ HA κ i ≤ p ∧ p ≤ HA κ i + 4 := by
  rcases h with ⟨⟨h1, h2⟩, -⟩ | ⟨l, hl, h⟩
  · exact Or.inr ⟨h1, by omega⟩
  · left
    unfold scD
    unfold LA at h
    omega
theorem shW_T {p j : Nat} (h : shW κ (kB (kt κ) + 54) p j) : scD κ p j := by
  rcases h with ⟨⟨h1, h2⟩, -⟩ | ⟨l, hl, h⟩
  · unfold scD; omega
  · unfold scD
    unfold LA at h
    omega
theorem brQ_H {i p j : Nat} (h : brQ (QQ κ) i p j) : scQ κ p j ∨ p = QQ κ + 14 ∧ 3680 * i ≤ j ∧ j < 3680 * i + 3680 := by
  unfold brQ exQ at h
  unfold scQ
  omega
theorem brQ_T {p j : Nat} (h : brQ (QQ κ) 6 p j) : scQ κ p j := by
  unfold brQ exQ at h
  unfold scQ
  omega
theorem HA_low {i p j : Nat} (hi : i < 6) (h : scD κ p j ∨ HA κ i ≤ p ∧ p ≤ HA κ i + 4) : p < QQ κ := by
  rcases h with h | h
  · exact sc_low h
  · unfold HA at h; unfold QQ; omega
/-- one sheet was changed -/
theorem GRc.upd {i : Nat} (h : GRc κ C n T m dt rt) (hi : i < m) (hs : SR κ dt' (HA κ i) rt' (QQ κ) i) (hu : UOK (rw_ rt' (QQ κ) i)) (h2 : rw_ rt' (QQ κ) i 2 = rw_ rt (QQ κ) i 2) (hd : Same (shW κ (HA κ i)) dt dt') (hr : Same (brQ (QQ κ) i) rt rt') : GRc κ C n T m dt' rt' := by
  have hm := h.m6
  obtain ⟨g1, g2, g3, g4, g5⟩ := h.2 i hi
  refine h.one hi (hd.mono (fun p j z => shW_H (by omega) z)) (hr.mono (fun p j z => brQ_H z)) ⟨hs.1, hs.2.1, hu, ?_, by rw [h2]; exact g5⟩
  have e1 : gi dt' (HA κ i) 7 = gi dt (HA κ i) 7 := (hd _ _ (fun z => by
    rcases z with ⟨-, z⟩ | ⟨l, hl, z⟩
    · exact z ⟨rfl, rfl⟩
    · unfold HA LA at z; omega)).1
  have e2 : rw_ rt' (QQ κ) i 3 = rw_ rt (QQ κ) i 3 := (hr _ _ (fun z => by unfold brQ exQ at z; omega)).1
  rw [e1, e2]
  exact g4
theorem GRc.updOut {i : Nat} (h : GRc κ C n T m dt rt) (hi : i < m) (v : Int32) (hs : SR κ dt' (HA κ i) rt' (QQ κ) i) (hu : UOK (rw_ rt' (QQ κ) i)) (h2 : rw_ rt' (QQ κ) i 2 = rw_ rt (QQ κ) i 2) (hd : Same (shW κ (HA κ i)) dt dt') (hr : Same (brQ (QQ κ) i) rt rt') : OUT κ dt rt (some (v, dt')) (some (v, rt')) :=
  ⟨v, dt', rt', rfl, rfl, (h.upd hi hs hu h2 hd hr).gr, hd.mono (fun p j z => HA_low (by have := h.m6; omega) (shW_H (by have := h.m6; omega) z)), hr.mono (fun p j z => by
    rcases brQ_H z with y | y
    · exact sc_hig y
    · omega)⟩
theorem GRc.uok (h : GRc κ C n T m dt rt) {i : Nat} (hi : i < m) : UOK (rw_ rt (QQ κ) i) := (h.2 i hi).2.2.1
theorem GRc.hlow (h : GRc κ C n T m dt rt) {i : Nat} (hi : i < m) : HA κ i + 4 < kB (kt κ) + 70 := by have := h.m6; unfold HA; omega
theorem x_press (h : GRc κ C n T m dt rt) (x y : Int32) : OUT κ dt rt (f_X_press κ (kB (kt κ)) x y dt) (f_R_press κ (QQ κ) x y rt) := by
  unfold f_X_press f_R_press f_X_isTight
  simp only [jn_e]
  rcases h.pl x with ⟨i, hi, rfl, e1, e2⟩ | ⟨e1, e2⟩
  · have hm := h.m6
    have hS := h.sr hi
    have hD := hS.rd
    rw [e1, e2, bnd_t, nulS, grd_t hS.1.1, if_neg (show ¬ (1 : Int32) = 0 by decide)]
    by_cases h2 : wi y.toInt64 (1 : Int64) (99 : Int64) = 0
    · rw [if_pos h2, if_pos h2]; exact h.no _
    · rw [if_neg h2, if_neg h2, r_sheet hS.2.2 (k := 5) (y := 5) (by decide) rfl, bnd_t, hD.1]
      by_cases hr : rD (rw_ rt (QQ κ) i) < 60
      · obtain ⟨L, K, hX⟩ := (h.law hi).x
        obtain ⟨c, d1, r1, p1, p2, p3, p4, p5, p6, p7, p8, p9⟩ := q_press hS (h.uok hi) hr hX (by have := h.hlow hi; unfold LA; omega) y
        rw [if_neg (show ¬ (60 : Int32) ≤ nI (rD (rw_ rt (QQ κ) i)) from nI_ge (b := 60) hr (by decide)), p1, p2, bnd2_t, bnd2_t]
        exact h.updOut hi _ p4 p5 p6 p8 p9
      · rw [if_pos (show (60 : Int32) ≤ nI (rD (rw_ rt (QQ κ) i)) from nI_le (a := 60) (by omega) (by omega)), crush_full hS hr, bnd2_t]
        exact h.no _
  · rw [e1, e2, bnd_t, nulN, if_pos rfl]; exact h.no _
theorem x_fold (h : GRc κ C n T m dt rt) (x y z : Int32) : OUT κ dt rt (f_X_fold κ (kB (kt κ)) x y z dt) (f_R_fold κ (QQ κ) x y z rt) := by
  unfold f_X_fold f_R_fold
  simp only [jn_e]
  rcases h.pl x with ⟨i, hi, rfl, e1, e2⟩ | ⟨e1, e2⟩
  · have hS := h.sr hi
    rw [e1, e2, bnd_t, nulS, grd_t hS.1.1, if_neg (show ¬ (1 : Int32) = 0 by decide)]
    by_cases h2 : wi y.toInt64 (0 : Int64) (1 : Int64) = 0
    · rw [if_pos h2, if_pos h2]; exact h.no _
    · obtain ⟨w, hw, rfl⟩ := wi0 (c := 1) (by decide) rfl h2
      obtain ⟨v, d1, r1, p1, p2, p3, p4, p5, p6, p7, p8⟩ := q_crease2 hS (w := w) (by omega) z
      rw [if_neg h2, if_neg h2, p1, p2, bnd2_t, bnd2_t]
      exact h.updOut hi _ p3 (p6 (h.uok hi)) p7 p4 (fr_br p5)
  · rw [e1, e2, bnd_t, nulN, if_pos rfl]; exact h.no _
theorem x_turn (h : GRc κ C n T m dt rt) (x : Int32) : OUT κ dt rt (f_X_turn κ (kB (kt κ)) x dt) (f_R_turn κ (QQ κ) x rt) := by
  unfold f_X_turn f_R_turn
  rcases h.pl x with ⟨i, hi, rfl, e1, e2⟩ | ⟨e1, e2⟩
  · have hS := h.sr hi
    obtain ⟨d1, r1, p1, p2, p3, p4, p5, p6⟩ := q_turn2 hS
    rw [e1, e2, bnd_t, nulS, grd_t hS.1.1, if_neg (show ¬ (1 : Int32) = 0 by decide), p1, p2, bnd_t, bnd_t]
    exact h.updOut hi _ p3 (by rw [p6]; exact uok_turn hS.nf.2.1 (h.uok hi)) (by rw [p6, turnS_lo (by decide) (by decide)]) p4 (fr_br p5)
  · rw [e1, e2, bnd_t, nulN, if_pos rfl]; exact h.no _
theorem GRc.dosr (h : GRc κ C n T m dt rt) {k : Nat} (hk : k < C 1) : DOSR dt rt (DA κ k) (QQ κ) (6 + k) := h.1.2.1.2.2.1 k hk
theorem x_done (h : GRc κ C n T m dt rt) (x y : Int32) : OUT κ dt rt (f_X_done κ (kB (kt κ)) x y dt) (f_R_done κ (QQ κ) x y rt) := by
  unfold f_X_done f_R_done
  simp only [jn_e]
  rcases h.doingAt x with ⟨k, hk, rfl, d1, d2, d3⟩ | ⟨d1, d3⟩
  · have hc := (h.cnt (s := 1) (by decide)).1
    rw [d1, d3, bnd_t, bnd_t, nulS, grd_t d2, if_neg (show ¬ (1 : Int32) = 0 by decide)]
    rcases h.pl y with ⟨i, hi, rfl, e1, e2⟩ | ⟨e1, e2⟩
    · have hS := h.sr hi
      obtain ⟨v, d', r', p1, p2, p3, p4, p5, p6, p7⟩ := q_does (k := k) (by omega) (h.dosr hk) hS (h.uok hi) (h.law hi) (h.hlow hi)
      rw [e1, e2, bnd_t, nulS, grd_t hS.1.1, if_neg (show ¬ (1 : Int32) = 0 by decide), p1, p2, bnd2_t, bnd2_t]
      exact h.updOut hi _ p3 p4 p5 p6 p7
    · rw [e1, e2, bnd_t, nulN, if_pos rfl]; exact h.no _
  · rw [d1, d3, bnd_t, bnd_t, nulN, if_pos rfl]
    rcases h.pl y with ⟨i, hi, rfl, e1, e2⟩ | ⟨e1, e2⟩
    · rw [e1, bnd_t, nulS, grd_t (h.sr hi).1.1]; exact h.no _
    · rw [e1, bnd_t, nulN]; exact h.no _
theorem x_expected (h : GRc κ C n T m dt rt) (x y z : Int32) : OUT κ dt rt (f_X_expected κ (kB (kt κ)) x y z dt) (f_R_expected κ (QQ κ) x y z rt) := by
  unfold f_X_expected f_R_expected f_X_isTight
  simp only [jn_e]
  rcases h.pl x with ⟨i, hi, rfl, e1, e2⟩ | ⟨e1, e2⟩
  · have hm := h.m6
    have hS := h.sr hi
    have hl := h.hlow hi
    obtain ⟨L, K, hX⟩ := (h.law hi).x
    rw [e1, e2, bnd_t, nulS, grd_t hS.1.1, if_neg (show ¬ (1 : Int32) = 0 by decide)]
    by_cases h2 : wi y.toInt64 (1 : Int64) (99 : Int64) = 0
    · rw [if_pos h2, if_pos h2]; exact h.no _
    · rw [if_neg h2, if_neg h2]
      by_cases h3 : wi z.toInt64 (0 : Int64) (1 : Int64) = 0
      · rw [if_pos h3, if_pos h3]; exact h.no _
      · rw [if_neg h3, if_neg h3]
        obtain ⟨o, g1, g2⟩ := q_all hS
        obtain ⟨d1, u1, u2⟩ := d_expL hS.2.1 hX.2.2 (Or.inl (by unfold LA; omega)) y o (if z = 0 then 1 else 0) (nF (rw_ rt (QQ κ) i)) 0 FU 0 dt (by omega) (FUn (by have := hS.nf; omega)) hS.1 hX.1
        obtain ⟨r1, v1, v2⟩ := r_expL (κ := κ) hS.2.1 hX.2.2 hS.2.2 y o z (nF (rw_ rt (QQ κ) i)) 0 FU 0 rt (by omega) (FUn (by have := hS.nf; omega)) rfl hX.2.1
        have eb : (!decide ((if z = 0 then (1 : Int32) else 0) = 0)) = decide (z = 0) := by
          by_cases e : z = 0
          · rw [if_pos e, decide_eq_true e]; decide
          · rw [if_neg e, decide_eq_false e]; decide
        rw [eb] at u1
        have u1' : f_Sh_expectedBreaks κ (HA κ i) y o (if z = 0 then 1 else 0) dt = some (_, d1) := u1
        have v1' : f_R_expects κ (QQ κ) (nI i) y z rt = L_R_expects_13 κ FU (QQ κ) (nI i) y z o 0 (nI 0) rt := by
          unfold f_R_expects
          rw [g2, bnd_t]
          rfl
        rw [g1, bnd_t, u1', bnd2_t, v1', v1, bnd2_t]
        refine h.scOut _ (u2.mono (fun p j z => ?_)) (v2.mono (fun p j z => by unfold exQ at z; unfold scQ; omega))
        unfold exW at z
        have hl6 := hS.law.2
        unfold scD
        unfold LA HA at z
        omega
  · rw [e1, e2, bnd_t, nulN, if_pos rfl]; exact h.no _
theorem lk_sc {k p j : Nat} (hk : k < 6) (h : lkW (kB (kt κ) + 59) (RA κ k) p) : scD κ p j := by
  unfold lkW at h
  unfold RA at h
  unfold scD
  omega
theorem lk_scQ {p j : Nat} (h : lkQ (QQ κ) p j) : scQ κ p j := by
  unfold lkQ rkW at h
  unfold scQ
  omega
theorem GRc.rul (h : GRc κ C n T m dt rt) {k : Nat} (hk : k < C 2) : RULR dt rt (RA κ k) (QQ κ) (12 + k) := h.1.2.1.2.2.2.1 k hk
theorem GRc.look (h : GRc κ C n T m dt rt) {k i : Nat} (hk : k < C 2) (hi : i < m) : ∃ d2 r2, f_Si_look κ (kB (kt κ) + 59) (RA κ k) (HA κ i) dt = some d2 ∧ f_R_sees κ (QQ κ) (nI k) (nI i) rt = some r2 ∧ LK κ d2 r2 (HA κ i) (QQ κ) i (kB (kt κ) + 59) ∧ rw_ r2 (QQ κ) i = rw_ rt (QQ κ) i ∧ Same (scD κ) dt d2 ∧ Same (scQ κ) rt r2 := by
  have hc := (h.cnt (s := 2) (by decide)).1
  have hm := h.m6
  obtain ⟨d2, r2, z1, z2, z3⟩ := q_look (κ := κ) (Z := kB (kt κ) + 59) (A := RA κ k) (h.sr hi) (k := k) (by omega) (Or.inr (by unfold HA; omega)) ⟨by unfold HA RA; omega, by unfold RA; omega⟩ (h.rul hk)
  exact ⟨d2, r2, z1, z2, z3.lk, rw_fr rfl z3.2.2.2.2.2 (fun j z => by unfold lkQ rkW at z; omega), z3.2.2.2.2.1.mono (fun p j z => lk_sc (by omega) z), z3.2.2.2.2.2.mono (fun p j z => lk_scQ z)⟩
theorem x_seen (h : GRc κ C n T m dt rt) (x y z : Int32) : OUT κ dt rt (f_X_seen κ (kB (kt κ)) x y z dt) (f_R_seen κ (QQ κ) x y z rt) := by
  unfold f_X_seen f_R_seen
  simp only [jn_e]
  rcases h.ruleAt x with ⟨k, hk, rfl, d1, d2, d3⟩ | ⟨d1, d3⟩
  · rw [d1, d3, bnd_t, bnd_t, nulS, grd_t d2, if_neg (show ¬ (1 : Int32) = 0 by decide)]
    rcases h.pl y with ⟨i, hi, rfl, e1, e2⟩ | ⟨e1, e2⟩
    · have hS := h.sr hi
      rw [e1, e2, bnd_t, nulS, grd_t hS.1.1, if_neg (show ¬ (1 : Int32) = 0 by decide)]
      by_cases h3 : wi z.toInt64 (0 : Int64) (2 : Int64) = 0
      · rw [if_pos h3, if_pos h3]; exact h.no _
      · obtain ⟨p, hp, rfl⟩ := wi0 (c := 2) (by decide) rfl h3
        obtain ⟨s2, r2, l1, l2, hL, lr, w1, w2⟩ := h.look hk hi
        have hn := hL.1.nr
        rw [if_neg h3, if_neg h3, l1, l2, bnd_t, bnd_t]
        have hc : p = 0 ∨ p = 1 ∨ p = 2 := by omega
        rcases hc with rfl | rfl | rfl
        · obtain ⟨v, u1, u2⟩ := q_seen0 hL (nR (rw_ r2 (QQ κ) i)) 0 FU FU 0 (by omega) (FUn (by omega)) (FUn (by omega))
          have u1' : f_Si_seenRidges κ (kB (kt κ) + 59) s2 = some v := u1
          rw [if_pos (show nI 0 = 0 from rfl), u1', bnd_t]
          exact (show _ = some (v, r2) from u2) ▸ h.scOut v w1 w2
        · obtain ⟨v, u1, u2⟩ := q_seenL hL
          obtain ⟨v', -, u3⟩ := q_seen2 hL (y := nI 1) (by decide) (nR (rw_ r2 (QQ κ) i)) 0 FU FU 0 (by omega) (FUn (by omega)) (FUn (by omega))
          have u4 : seenK κ (QQ κ) (nI i) (nI 1) v' r2 = some (v, r2) := by
            unfold seenK
            rw [if_pos (show nI 1 = 1 from rfl), u2, bnd_t]
          rw [if_neg (show ¬ nI 1 = 0 by decide), if_pos (show nI 1 = 1 from rfl), u1, bnd_t]
          exact (show _ = some (v, r2) from u3.trans u4) ▸ h.scOut v w1 w2
        · obtain ⟨v, u1, u3⟩ := q_seen2 hL (y := nI 2) (by decide) (nR (rw_ r2 (QQ κ) i)) 0 FU FU 0 (by omega) (FUn (by omega)) (FUn (by omega))
          have u4 : seenK κ (QQ κ) (nI i) (nI 2) v r2 = some (v, r2) := by
            unfold seenK
            rw [if_neg (show ¬ nI 2 = 1 by decide)]
          have u1' : f_Si_looseEnds κ (kB (kt κ) + 59) s2 = some v := u1
          rw [if_neg (show ¬ nI 2 = 0 by decide), if_neg (show ¬ nI 2 = 1 by decide), u1', bnd_t]
          exact (show _ = some (v, r2) from u3.trans u4) ▸ h.scOut v w1 w2
    · rw [e1, e2, bnd_t, nulN, if_pos rfl]; exact h.no _
  · rw [d1, d3, bnd_t, bnd_t, nulN, if_pos rfl]
    rcases h.pl y with ⟨i, hi, rfl, e1, e2⟩ | ⟨e1, e2⟩
    · rw [e1, bnd_t, nulS, grd_t (h.sr hi).1.1]; exact h.no _
    · rw [e1, bnd_t, nulN]; exact h.no _
theorem x_right (h : GRc κ C n T m dt rt) (x y z : Int32) : OUT κ dt rt (f_X_right κ (kB (kt κ)) x y z dt) (f_R_right κ (QQ κ) x y z rt) := by
  unfold f_X_right f_R_right
  simp only [jn_e]
  rcases h.ruleAt x with ⟨k, hk, rfl, d1, d2, d3⟩ | ⟨d1, d3⟩
  · rw [d1, d3, bnd_t, bnd_t, nulS, grd_t d2, if_neg (show ¬ (1 : Int32) = 0 by decide)]
    rcases h.pl y with ⟨i, hi, rfl, e1, e2⟩ | ⟨e1, e2⟩
    · have hS := h.sr hi
      rw [e1, e2, bnd_t, nulS, grd_t hS.1.1, if_neg (show ¬ (1 : Int32) = 0 by decide)]
      by_cases h3 : wi z.toInt64 (0 : Int64) (1 : Int64) = 0
      · rw [if_pos h3, if_pos h3]; exact h.no _
      · obtain ⟨s2, r2, l1, l2, hL, lr, w1, w2⟩ := h.look hk hi
        have hn := hL.1.nr
        rw [if_neg h3, if_neg h3, l1, l2, bnd_t, bnd_t, rs7 hL.1, bnd_t, hn.1]
        by_cases z0 : z = 0
        · obtain ⟨v, u1, u2⟩ := q_rightN hL
          rw [if_pos z0, u1, bnd_t, z0]
          exact (show _ = some (v, r2) from u2) ▸ h.scOut v w1 w2
        · obtain ⟨v, u1, u2⟩ := q_rightF hL z0
          rw [if_neg z0, u1, bnd_t]
          exact (show _ = some (v, r2) from u2) ▸ h.scOut v w1 w2
    · rw [e1, e2, bnd_t, nulN, if_pos rfl]; exact h.no _
  · rw [d1, d3, bnd_t, bnd_t, nulN, if_pos rfl]
    rcases h.pl y with ⟨i, hi, rfl, e1, e2⟩ | ⟨e1, e2⟩
    · rw [e1, bnd_t, nulS, grd_t (h.sr hi).1.1]; exact h.no _
    · rw [e1, bnd_t, nulN]; exact h.no _
theorem x_often (h : GRc κ C n T m dt rt) (x y z : Int32) : OUT κ dt rt (f_X_often κ (kB (kt κ)) x y z dt) (f_R_often κ (QQ κ) x y z rt) := by
  unfold f_X_often f_R_often
  simp only [jn_e]
  rcases h.ruleAt x with ⟨k, hk, rfl, d1, d2, d3⟩ | ⟨d1, d3⟩
  · rw [d1, d3, bnd_t, bnd_t, nulS, grd_t d2, if_neg (show ¬ (1 : Int32) = 0 by decide)]
    rcases h.pl y with ⟨i, hi, rfl, e1, e2⟩ | ⟨e1, e2⟩
    · have hS := h.sr hi
      rw [e1, e2, bnd_t, nulS, grd_t hS.1.1, if_neg (show ¬ (1 : Int32) = 0 by decide)]
      rcases h.pl z with ⟨j, hj, rfl, f1, f2⟩ | ⟨f1, f2⟩
      · obtain ⟨s2, r2, l1, l2, hL, lr, w1, w2⟩ := h.look hk hi
        obtain ⟨v, u1, u2⟩ := q_seenL hL
        obtain ⟨w, g1, g2⟩ := q_often ((h.sc w1 w2).sr hj) v
        rw [f1, f2, bnd_t, nulS, grd_t (h.sr hj).1.1, if_neg (show ¬ (1 : Int32) = 0 by decide), l1, l2, bnd_t, bnd_t, u1, u2, bnd_t, bnd_t, g1, bnd_t, g2]
        exact h.scOut w w1 w2
      · rw [f1, f2, bnd_t, nulN, if_pos rfl]; exact h.no _
    · rw [e1, e2, bnd_t, nulN, if_pos rfl]
      rcases h.pl z with ⟨j, hj, rfl, f1, f2⟩ | ⟨f1, f2⟩
      · rw [f1, bnd_t, nulS, grd_t (h.sr hj).1.1]; exact h.no _
      · rw [f1, bnd_t, nulN]; exact h.no _
  · rw [d1, d3, bnd_t, bnd_t, nulN, if_pos rfl]
    rcases h.pl y with ⟨i, hi, rfl, e1, e2⟩ | ⟨e1, e2⟩
    · rw [e1, bnd_t, nulS, grd_t (h.sr hi).1.1]
      rcases h.pl z with ⟨j, hj, rfl, f1, f2⟩ | ⟨f1, f2⟩
      · rw [f1, bnd_t, nulS, grd_t (h.sr hj).1.1]; exact h.no _
      · rw [f1, bnd_t, nulN]; exact h.no _
    · rw [e1, bnd_t, nulN]
      rcases h.pl z with ⟨j, hj, rfl, f1, f2⟩ | ⟨f1, f2⟩
      · rw [f1, bnd_t, nulS, grd_t (h.sr hj).1.1]; exact h.no _
      · rw [f1, bnd_t, nulN]; exact h.no _
end Mut
