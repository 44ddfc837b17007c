/-! the trial sheet: after, alike, which, runs, until: both classes -/
section Trial
variable {κ : Ko} {C : Nat → Nat} {n m : Nat} {T : Nat → Nat} {dt rt dt' rt' : AS} {a b q s : Nat}
theorem q_alikesN (h : SR κ dt a rt q s) (h' : SR κ dt b rt q 6) : ∃ c, c ≤ 400 ∧ f_Sh_ridgesAlsoOf κ a b dt = some (nI c) ∧ L_R_alikeBy_24 κ FU q (nI s) 0 0 rt = some (nI c, rt) := by
  have hn := h.nr.2
  unfold f_Sh_ridgesAlsoOf
  refine lk2 (fun d t i => L_Sh_ridgesAlsoOf_4 κ dt d a b t i) (fun d t i => L_R_alikeBy_24 κ d q (nI s) t i rt) (fun x y => ∃ c, c ≤ 400 ∧ x = some (nI c) ∧ y = some (nI c, rt)) (fun i t => ∃ c, c ≤ i ∧ t = nI c) (n := nR (rw_ rt q s)) ?_ ?_ ((nR (rw_ rt q s)) - 0) 0 FU (0) (by omega) (FUn (by omega)) ⟨0, Nat.le_refl _, rfl⟩
  · rintro d t ⟨c, hc, rfl⟩
    rw [L_Sh_ridgesAlsoOf_4, L_R_alikeBy_24, d_nr h, if_pos (nI_le (Nat.le_refl _) (by omega)), rs7 h, bnd_t, h.nr.1, if_pos (nI_le (Nat.le_refl _) (by omega))]
    exact ⟨c, by omega, rfl, rfl⟩
  · rintro d t i hi ⟨c, hc, rfl⟩ ih
    rw [L_Sh_ridgesAlsoOf_4, L_R_alikeBy_24, d_nr h, if_neg (nI_ge hi (by omega)), rs7 h, bnd_t, h.nr.1, if_neg (nI_ge hi (by omega))]
    obtain ⟨v, v1, v2, v3⟩ := q_like h h' hi (nI c) (fun (v31 : Nat) (v33 : Int32) (v34 : Int32) (v35 : Int32) (v36 : Int32) (s37 : AS) => L_R_alikeBy_24 κ d v31 v33 (if v36 = 0 then v34 + 0 else v34 + 1 : Int32) (v35 + 1) s37)
    rw [v2, v3, bnd_t, nI_1 i]
    refine ih _ ?_
    rcases v1 with rfl | rfl
    · exact ⟨c, by omega, Int32.add_zero _⟩
    · exact ⟨c + 1, by omega, nI_1 c⟩
/-- the trial sheet, both classes -/
def TRI (κ : Ko) (C : Nat → Nat) (dt rt : AS) : Prop := SR κ dt (kB (kt κ) + 54) rt (QQ κ) 6 ∧ UOK (rw_ rt (QQ κ) 6) ∧ (rw_ rt (QQ κ) 6 2).toNatClampNeg < C 0
theorem ly_T : ly κ (kB (kt κ) + 54) = (8, 14) := ly_sh (i := 54) (by decide)
theorem tr_sc {p j : Nat} (h : kB (kt κ) + 54 ≤ p ∧ p < kB (kt κ) + 54 + 5) : scD κ p j := by unfold scD; omega
theorem fr_T (h : FrR0 (QQ κ) 6 rt rt') : Same (scQ κ) rt rt' := fun p j hp => ⟨h.1 p j (fun e => by
  by_cases z : j < 3680 * 6
  · exact Or.inl z
  · exact absurd (show scQ κ p j by unfold scQ; omega) hp), h.2.1 p j, h.2.2 p j⟩
theorem SHT.sok {a : Nat} {S : Nat → Int32} {c : Nat} (h : SHT κ dt a S c) : SOK S := h.2.1
/-- copied -/
theorem GRc.cpy (h : GRc κ C n T m dt rt) {i : Nat} (hi : i < m) : ∃ d1 r1, f_Sh_becomeLike κ (kB (kt κ) + 54) (HA κ i) dt = some d1 ∧ f_R_copySheet κ (QQ κ) (nI i) 6 rt = some r1 ∧ TRI κ C d1 r1 ∧ Same (scD κ) dt d1 ∧ Same (scQ κ) rt r1 ∧ rw_ r1 (QQ κ) 6 5 = rw_ rt (QQ κ) i 5 := by
  have hm := h.m6
  obtain ⟨g1, g2, g3, g4, g5⟩ := h.2 i hi
  obtain ⟨d1, a1, a2, a3, a4⟩ := d_like g1 (a0 := kB (kt κ) + 54) ly_T (Or.inr (by unfold HA; omega)) g2
  obtain ⟨r1, b1', b2, b3⟩ := r_copy (κ := κ) (q := QQ κ) (rt := rt) (s1 := i) (s2 := 6) (by omega) (by decide) (by omega)
  exact ⟨d1, r1, a1, b1', ⟨⟨a2.ext b2 (sok_6 g2).2.1 (sok_7 g2).2 ((g2.1.2.2.2.2.2.1).cl (by decide)).2.2, sok_ext g2 b2, by decide⟩, uok_ext g2 g3 b2, by rw [b2 2 (by decide)]; exact g5⟩, a4.mono (fun p j z => tr_sc z), fr_T b3, b2 5 (by decide)⟩
/-- begun afresh -/
theorem GRc.fresh (h : GRc κ C n T m dt rt) {i : Nat} (hi : i < m) {x : Int32} (hx : 0 ≤ x) : ∃ d1 r1, f_Sh_beginAfresh κ (kB (kt κ) + 54) (HA κ i) x dt = some d1 ∧ f_R_afresh κ (QQ κ) (nI i) x rt = some r1 ∧ TRI κ C d1 r1 ∧ Same (scD κ) dt d1 ∧ Same (scQ κ) rt r1 := by
  have hm := h.m6
  obtain ⟨g1, g2, g3, g4, g5⟩ := h.2 i hi
  obtain ⟨k, rfl, hk⟩ := i_nat hx
  obtain ⟨d1, a1, a2, a3⟩ := d_afresh g1 g2 (a0 := kB (kt κ) + 54) ly_T (rw_ rt (QQ κ) 6) (nI k)
  obtain ⟨r1, b1', b2, b3⟩ := r_afresh (κ := κ) (q := QQ κ) (rt := rt) rfl (show i < 7 by omega) (nI k)
  have hok : SOK (begS (rw_ rt (QQ κ) 6) (rw_ rt (QQ κ) i 8) (rw_ rt (QQ κ) i 9) (rw_ rt (QQ κ) i 2) (rw_ rt (QQ κ) i 3) (nI k)) := begS_ok g2.1.2.2.2.2.2.2.2.2.1 g2.1.2.2.2.2.2.2.2.2.2 g2.1.2.2.1 g2.1.2.2.2.1 ⟨k, rfl, Nat.zero_le _, by omega⟩
  exact ⟨d1, r1, a1, b1', ⟨⟨by rw [b2]; exact a2, by rw [b2]; exact hok, by decide⟩, by rw [b2]; exact uok_beg hok begS_7, by rw [b2, begS_2]; exact g5⟩, a3.mono (fun p j z => tr_sc z), fr_T b3⟩
theorem GRc.tlaw (h : GRc κ C n T m dt rt) (t : TRI κ C dt rt) : LAWR dt rt (LA κ (rw_ rt (QQ κ) 6 2).toNatClampNeg) (QQ κ) (rw_ rt (QQ κ) 6 2).toNatClampNeg := h.1.2.1.2.1 _ t.2.2
/-- a doing done to it -/
theorem GRc.doT (h : GRc κ C n T m dt rt) (t : TRI κ C dt rt) {k : Nat} (hk : k < C 1) : ∃ v d2 r2, f_Dg_doTo κ (DA κ k) (kB (kt κ) + 54) dt = some (v, d2) ∧ f_R_does κ (QQ κ) (nI k) 6 rt = some (v, r2) ∧ TRI κ C d2 r2 ∧ Same (scD κ) dt d2 ∧ Same (scQ κ) rt r2 := by
  have hc := (h.cnt (s := 1) (by decide)).1
  obtain ⟨v, d', r', p1, p2, p3, p4, p5, p6, p7⟩ := q_does (k := k) (by omega) (h.dosr hk) t.1 t.2.1 (h.tlaw t) (by omega)
  exact ⟨v, d', r', p1, p2, ⟨p3, p4, by rw [p5]; exact t.2.2⟩, p6.mono (fun p j z => shW_T z), p7.mono (fun p j z => brQ_T z)⟩
theorem x_after (h : GRc κ C n T m dt rt) (x y z : Int32) : OUT κ dt rt (f_X_after κ (kB (kt κ)) x y z dt) (f_R_after κ (QQ κ) x y z rt) := by
  unfold f_X_after f_R_after
  simp only [jn_e]
  rcases h.doingAt x with ⟨k, hk, rfl, d1, d2, d3⟩ | ⟨d1, d3⟩
  · rw [d1, d3, bnd_t, bnd_t, nulS, grd_t d2, if_neg (show ¬ (1 : Int32) = 0 by decide)]
    rcases h.pl y with ⟨i, hi, rfl, e1, e2⟩ | ⟨e1, e2⟩
    · have hS := h.sr hi
      rw [e1, e2, bnd_t, nulS, grd_t hS.1.1, if_neg (show ¬ (1 : Int32) = 0 by decide)]
      by_cases h3 : wi z.toInt64 (0 : Int64) (2 : Int64) = 0
      · rw [if_pos h3, if_pos h3]; exact h.no _
      · obtain ⟨s1, r1, a1, a2, t1, w1, w2, -⟩ := h.cpy hi
        have h1 := h.sc w1 w2
        obtain ⟨v, s2, r2, b1', b2, t2, w3, w4⟩ := h1.doT t1 hk
        have w13 := w1.tr w3
        have w24 := w2.tr w4
        obtain ⟨o, g1, g2⟩ := q_all t2.1
        have g2' : f_R_together κ (QQ κ) 6 r2 = some o := g2
        have s6 : f_Sh_facetCount κ (kB (kt κ) + 54) s2 = rw_ r2 (QQ κ) 6 6 := t2.1.1.2.1.2.2.2.2.2.1
        have r6 : f_R_sheetOf κ (QQ κ) 6 6 r2 = some (rw_ r2 (QQ κ) 6 6) := r_sheet (s := 6) (k := 6) (y := 6) (by decide) (by decide) rfl
        rw [if_neg h3, if_neg h3, a1, a2, bnd_t, bnd_t, b1', b2, bnd2_t, bnd2_t, g1, g2', bnd_t, bnd_t, s6, r6, bnd_t]
        by_cases z0 : z = 0
        · rw [if_pos z0, if_pos z0]; exact h.scOut _ w13 w24
        · rw [if_neg z0, if_neg z0]
          by_cases z1 : z = 1
          · rw [if_pos z1, if_pos z1]; exact h.scOut _ w13 w24
          · rw [if_neg z1, if_neg z1]; exact h.scOut _ w13 w24
    · rw [e1, e2, bnd_t, nulN, if_pos rfl]; exact h.no _
  · rw [d1, d3, bnd_t, bnd_t, nulN, if_pos rfl]
    rcases h.pl y with ⟨i, hi, rfl, e1, e2⟩ | ⟨e1, e2⟩
    · rw [e1, bnd_t, nulS, grd_t (h.sr hi).1.1]; exact h.no _
    · rw [e1, bnd_t, nulN]; exact h.no _
/-- alike by one doing -/
theorem GRc.alk (h : GRc κ C n T m dt rt) {i k : Nat} (hi : i < m) (hk : k < C 1) : ∃ c d2 r2, c ≤ 400 ∧ f_X_alikeAfresh κ (kB (kt κ)) (HA κ i) (DA κ k) dt = some (nI c, d2) ∧ f_R_alikeBy κ (QQ κ) (nI i) (nI k) rt = some (nI c, r2) ∧ Same (scD κ) dt d2 ∧ Same (scQ κ) rt r2 := by
  have hm := h.m6
  obtain ⟨g1, g2, g3, g4, g5⟩ := h.2 i hi
  have e3 : f_Sh_seedTold κ (HA κ i) dt = rw_ rt (QQ κ) i 3 := g4
  have hx : (0 : Int32) ≤ rw_ rt (QQ κ) i 3 := by
    have := (g2.1.2.2.2.1).cl (by decide)
    rw [this.1]
    exact nI_ge0 (by omega)
  obtain ⟨s1, r1, a1, a2, t1, w1, w2⟩ := h.fresh hi hx
  have h1 := h.sc w1 w2
  obtain ⟨v, s2, r2, b1', b2, t2, w3, w4⟩ := h1.doT t1 hk
  have h2 := h1.sc w3 w4
  obtain ⟨c, hc, u1, u2⟩ := q_alikesN (h2.sr hi) t2.1
  refine ⟨c, s2, r2, hc, ?_, ?_, w1.tr w3, w2.tr w4⟩
  · unfold f_X_alikeAfresh
    rw [e3, a1, bnd_t, b1', bnd2_t, u1, bnd_t]
  · unfold f_R_alikeBy
    rw [r_sheet (s := i) (k := 3) (y := 3) (by omega) (by decide) rfl, bnd_t, a2, bnd_t, b2, bnd2_t]
    exact u2
theorem x_alike (h : GRc κ C n T m dt rt) (x y : Int32) : OUT κ dt rt (f_X_alike κ (kB (kt κ)) x y dt) (f_R_alike κ (QQ κ) x y rt) := by
  unfold f_X_alike f_R_alike
  simp only [jn_e]
  rcases h.doingAt y with ⟨k, hk, rfl, d1, d2, d3⟩ | ⟨d1, d3⟩
  · rw [d1, d3, bnd_t, bnd_t, nulS, grd_t d2, if_neg (show ¬ (1 : Int32) = 0 by decide)]
    rcases h.pl x with ⟨i, hi, rfl, e1, e2⟩ | ⟨e1, e2⟩
    · obtain ⟨c, s2, r2, hc, a1, a2, w1, w2⟩ := h.alk hi hk
      rw [e1, e2, bnd_t, nulS, grd_t (h.sr hi).1.1, if_neg (show ¬ (1 : Int32) = 0 by decide), a1, a2, bnd2_t, bnd2_t]
      exact h.scOut _ w1 w2
    · rw [e1, e2, bnd_t, nulN, if_pos rfl]; exact h.no _
  · rw [d1, d3, bnd_t, bnd_t, nulN, if_pos rfl, ite_self]
    rcases h.pl x with ⟨i, hi, rfl, e1, e2⟩ | ⟨e1, e2⟩
    · rw [e1, bnd_t, nulS, grd_t (h.sr hi).1.1]; exact h.no _
    · rw [e1, bnd_t, nulN]; exact h.no _
/-- which doing -/
theorem which_d (κ : Ko) (d B a2 : Nat) (x3 x4 x5 : Int32) (st : AS) : L_X_which_24 κ (d + 1) B a2 x3 x4 x5 st = if 6 ≤ x5 then some (x3, st) else bnd (f_X_doingAt κ B x5 st) (fun v4 => nul v4 (L_X_which_24 κ d B a2 (if (-1 : Int32) ≤ x4 then x3 else x5) (if (-1 : Int32) ≤ x4 then x4 else -1) (x5 + 1) st) (fun c5 => grd (ly κ c5 = (2, 5)) (bnd2 (f_X_alikeAfresh κ B a2 c5 st) (fun v7 s8 => L_X_which_24 κ d B a2 (if v7 ≤ x4 then x3 else x5) (if v7 ≤ x4 then x4 else v7) (x5 + 1) s8)))) := rfl
theorem q_whichL {i : Nat} : ∀ k j d d' (b bd b' c' : Int32) dt rt, j + k = 6 → k < d → k < d' → GRc κ C n T m dt rt → i < m → ((b = -2 ∧ bd = -1 ∧ b' = -2) ∨ ∃ u c, u < 6 ∧ c ≤ 400 ∧ b = nI u ∧ b' = nI u ∧ bd = nI c ∧ c' = nI c) →
    ∃ v dt' rt', L_X_which_24 κ d (kB (kt κ)) (HA κ i) b bd (nI j) dt = some (v, dt') ∧ (j ≤ C 1 → L_R_which_18 κ d' (QQ κ) (nI i) b' c' (nI j) rt = some (v, rt')) ∧ (C 1 < j → v = b) ∧ Same (scD κ) dt dt' ∧ Same (scQ κ) rt rt'
  | 0, j, d, d', b, bd, b', c', dt, rt, hj, hd, hd', h, hi, hb => by
    obtain ⟨d, rfl⟩ : ∃ z, d = z + 1 := ⟨d - 1, by omega⟩
    obtain ⟨d', rfl⟩ : ∃ z, d' = z + 1 := ⟨d' - 1, by omega⟩
    have hc := h.cnt (s := 1) (by decide)
    have eb : b = b' := by
      rcases hb with ⟨rfl, -, rfl⟩ | ⟨u, c, -, -, rfl, rfl, -, -⟩ <;> rfl
    have ej : j = 6 := by omega
    subst ej
    refine ⟨b, dt, rt, ?_, fun hjc => ?_, fun _ => rfl, Same.rf _ _, Same.rf _ _⟩
    · rw [which_d, if_pos (show (6 : Int32) ≤ nI 6 by decide)]
    · have e1 : gi rt (QQ κ + 2) (1 : Int32).toNatClampNeg = nI (C 1) := hc.2.2
      rw [L_R_which_18, grd_t (show vp_in 1 4 from vp_in_nI (n := 1) (by decide) (by decide)), e1, if_pos (nI_le (by omega) (by decide)), eb]
  | k + 1, j, d, d', b, bd, b', c', dt, rt, hj, hd, hd', h, hi, hb => by
    obtain ⟨d, rfl⟩ : ∃ z, d = z + 1 := ⟨d - 1, by omega⟩
    obtain ⟨d', rfl⟩ : ∃ z, d' = z + 1 := ⟨d' - 1, by omega⟩
    have hc := h.cnt (s := 1) (by decide)
    have eb : b = b' := by
      rcases hb with ⟨rfl, -, rfl⟩ | ⟨u, c, -, -, rfl, rfl, -, -⟩ <;> rfl
    have e1 : gi rt (QQ κ + 2) (1 : Int32).toNatClampNeg = nI (C 1) := hc.2.2
    have hbd : (-1 : Int32) ≤ bd := by
      rcases hb with ⟨-, rfl, -⟩ | ⟨u, c, -, hc4, -, -, rfl, -⟩
      · decide
      · rw [i32le, nI_toInt (by omega), show (-1 : Int32).toInt = -1 from rfl]; omega
    rw [which_d, if_neg (show ¬ (6 : Int32) ≤ nI j from nI_ge (b := 6) (by omega) (by decide)), nI_1]
    rcases h.doingAt (nI j) with ⟨k', hk', hjk, d1, d2, d3⟩ | ⟨d1, d3⟩
    · have ek : j = k' := (nI_eq (by omega) (by omega)).mp hjk
      subst ek
      obtain ⟨c, s2, r2, hc4, a1, a2, w1, w2⟩ := h.alk hi hk'
      have h2 := h.sc w1 w2
      rw [d1, bnd_t, nulS, grd_t d2, a1, bnd2_t]
      have go : ∀ B BD B' C', ((B = -2 ∧ BD = -1 ∧ B' = -2) ∨ ∃ u c, u < 6 ∧ c ≤ 400 ∧ B = nI u ∧ B' = nI u ∧ BD = nI c ∧ C' = nI c) → (if b' < 0 then L_R_which_18 κ d' (QQ κ) (nI i) (nI j) (nI c) (nI (j + 1)) r2 else if c' < nI c then L_R_which_18 κ d' (QQ κ) (nI i) (nI j) (nI c) (nI (j + 1)) r2 else L_R_which_18 κ d' (QQ κ) (nI i) b' c' (nI (j + 1)) r2) = L_R_which_18 κ d' (QQ κ) (nI i) B' C' (nI (j + 1)) r2 → ∃ v dt' rt', L_X_which_24 κ d (kB (kt κ)) (HA κ i) B BD (nI (j + 1)) s2 = some (v, dt') ∧ (j ≤ C 1 → L_R_which_18 κ (d' + 1) (QQ κ) (nI i) b' c' (nI j) rt = some (v, rt')) ∧ (C 1 < j → v = b) ∧ Same (scD κ) dt dt' ∧ Same (scQ κ) rt rt' := fun B BD B' C' hB hR => by
        obtain ⟨v, s3, r3, y1, y2, y3, y4, y5⟩ := q_whichL k (j + 1) d d' B BD B' C' s2 r2 (by omega) (by omega) (by omega) h2 hi hB
        refine ⟨v, s3, r3, y1, fun _ => ?_, fun z => by omega, w1.tr y4, w2.tr y5⟩
        rw [L_R_which_18, grd_t (show vp_in 1 4 from vp_in_nI (n := 1) (by decide) (by decide)), e1, if_neg (nI_ge hk' (by omega)), a2, bnd2_t, jn_e, nI_1, hR]
        exact y2 (by omega)
      rcases hb with ⟨rfl, rfl, rfl⟩ | ⟨u, c2, hu, hc2, rfl, rfl, rfl, rfl⟩
      · have hn : ¬ nI c ≤ (-1 : Int32) := by rw [i32le, nI_toInt (by omega), show (-1 : Int32).toInt = -1 from rfl]; omega
        rw [if_neg hn, if_neg hn]
        exact go _ _ (nI j) (nI c) (Or.inr ⟨j, c, by omega, hc4, rfl, rfl, rfl, rfl⟩) (if_pos (by decide))
      · have hn : ¬ nI u < 0 := Int32.not_lt.mpr (nI_ge0 (by omega))
        by_cases e2 : nI c ≤ nI c2
        · rw [if_pos e2, if_pos e2]
          exact go _ _ (nI u) (nI c2) (Or.inr ⟨u, c2, hu, hc2, rfl, rfl, rfl, rfl⟩) (by rw [if_neg hn, if_neg (Int32.not_lt.mpr e2)])
        · rw [if_neg e2, if_neg e2]
          exact go _ _ (nI j) (nI c) (Or.inr ⟨j, c, by omega, hc4, rfl, rfl, rfl, rfl⟩) (by rw [if_neg hn, if_pos (Int32.not_le.mp e2)])
    · have hjc : C 1 ≤ j := by
        rw [isText_n (s := 1) (y := 1) (by decide) hc.2.2 (nI j) rfl, if_neg (Int32.not_lt.mpr (nI_ge0 (by omega)))] at d3
        by_cases z : C 1 ≤ j
        · exact z
        · rw [if_neg (nI_ge (by omega) (by omega))] at d3
          exact absurd (Option.some.inj d3) (by decide)
      obtain ⟨v, s3, r3, y1, y2, y3, y4, y5⟩ := q_whichL k (j + 1) d d' b bd b' c' dt rt (by omega) (by omega) (by omega) h hi hb
      have hv : v = b := y3 (by omega)
      rw [d1, bnd_t, nulN, if_pos hbd, if_pos hbd]
      refine ⟨v, s3, rt, y1, fun hjc2 => ?_, fun _ => hv, y4, Same.rf _ _⟩
      rw [L_R_which_18, grd_t (show vp_in 1 4 from vp_in_nI (n := 1) (by decide) (by decide)), e1, if_pos (nI_le (by omega) (by omega)), hv, eb]
theorem x_which (h : GRc κ C n T m dt rt) (x : Int32) : OUT κ dt rt (f_X_which κ (kB (kt κ)) x dt) (f_R_which κ (QQ κ) x rt) := by
  unfold f_X_which f_R_which
  rcases h.pl x with ⟨i, hi, rfl, e1, e2⟩ | ⟨e1, e2⟩
  · obtain ⟨v, d2, r2, y1, y2, -, y4, y5⟩ := q_whichL (i := i) 6 0 FU FU (-2) (-1) (-2) 0 dt rt (by omega) (FUn (by omega)) (FUn (by omega)) h hi (Or.inl ⟨rfl, rfl, rfl⟩)
    have y1' : L_X_which_24 κ FU (kB (kt κ)) (HA κ i) (-2) (-1) 0 dt = some (v, d2) := y1
    have y2' : L_R_which_18 κ FU (QQ κ) (nI i) (-2) 0 0 rt = some (v, r2) := y2 (Nat.zero_le _)
    rw [e1, e2, bnd_t, nulS, grd_t (h.sr hi).1.1, if_neg (show ¬ (1 : Int32) = 0 by decide), y1', y2']
    exact h.scOut _ y4 y5
  · rw [e1, e2, bnd_t, nulN, if_pos rfl]; exact h.no _
/-- runs -/
theorem q_runsL {i k : Nat} {N : Nat} (hN : N ≤ 10) (x5 : Int32) : ∀ c j d d' (t : Int32) dt rt, j + c + 1 = N → c < d → c < d' → GRc κ C n T m dt rt → TRI κ C dt rt → i < m → k < C 1 →
    ∃ v dt' rt', L_X_runs_98 κ d (kB (kt κ)) (nI N) x5 (DA κ k) (HA κ i) t (nI j) dt = some (v, dt') ∧ L_R_runs_72 κ d' (QQ κ) (nI k) (nI i) (nI N) x5 t (nI j) rt = some (v, rt') ∧ Same (scD κ) dt dt' ∧ Same (scQ κ) rt rt' := by
  intro c
  induction c with
  | zero =>
    intro j d d' t dt rt hj hd hd' h tr hi hk
    obtain ⟨d, rfl⟩ : ∃ z, d = z + 1 := ⟨d - 1, by omega⟩
    obtain ⟨d', rfl⟩ : ∃ z, d' = z + 1 := ⟨d' - 1, by omega⟩
    obtain ⟨v, s2, r2, b1', b2, t2, w3, w4⟩ := h.doT tr hk
    obtain ⟨o, g1, g2⟩ := q_all t2.1
    have g2' : f_R_together κ (QQ κ) 6 r2 = some o := g2
    have r4 : f_R_sheetOf κ (QQ κ) 6 4 r2 = some (rw_ r2 (QQ κ) 6 4) := r_sheet (s := 6) (k := 4) (y := 4) (by decide) (by decide) rfl
    have hle : nI N ≤ nI j + 1 := by rw [nI_1]; exact nI_le (by omega) (by omega)
    rw [L_X_runs_98, L_R_runs_72, b1', b2, bnd2_t, bnd2_t, g1, g2', bnd_t, bnd_t, r4, bnd_t, if_pos hle, if_pos hle]
    refine ⟨_, s2, r2, rfl, ?_, w3, w4⟩
    by_cases e : o < x5
    · rw [if_pos e, if_pos e, Int32.add_zero]
    · rw [if_neg e, if_neg e]
  | succ c ih =>
    intro j d d' t dt rt hj hd hd' h tr hi hk
    obtain ⟨d, rfl⟩ : ∃ z, d = z + 1 := ⟨d - 1, by omega⟩
    obtain ⟨d', rfl⟩ : ∃ z, d' = z + 1 := ⟨d' - 1, by omega⟩
    obtain ⟨v, s2, r2, b1', b2, t2, w3, w4⟩ := h.doT tr hk
    have h2 := h.sc w3 w4
    obtain ⟨o, g1, g2⟩ := q_all t2.1
    have g2' : f_R_together κ (QQ κ) 6 r2 = some o := g2
    have r4 : f_R_sheetOf κ (QQ κ) 6 4 r2 = some (rw_ r2 (QQ κ) 6 4) := r_sheet (s := 6) (k := 4) (y := 4) (by decide) (by decide) rfl
    have hle : ¬ nI N ≤ nI j + 1 := by rw [nI_1]; exact nI_ge (by omega) (by omega)
    have sl : f_Sh_seedLeft κ (kB (kt κ) + 54) s2 = rw_ r2 (QQ κ) 6 4 := by
      unfold f_Sh_seedLeft
      rw [t2.1.1.2.1.2.2.2.1]
      exact Int32.toInt32_toInt64 _
    have h0 : (0 : Int32) ≤ rw_ r2 (QQ κ) 6 4 := by
      have := (t2.1.2.1.1.2.2.2.2.1).cl (by decide)
      rw [this.1]
      exact nI_ge0 (by omega)
    obtain ⟨s3, r3, u1, u2, t3, w5, w6⟩ := h2.fresh hi h0
    have et : (if o < x5 then t else t + 1) = t + (if o < x5 then 0 else 1) := by
      by_cases e : o < x5
      · rw [if_pos e, if_pos e, Int32.add_zero]
      · rw [if_neg e, if_neg e]
    obtain ⟨w, s4, r4', y1, y2, y3, y4⟩ := ih (j + 1) d d' (t + (if o < x5 then 0 else 1)) s3 r3 (by omega) (by omega) (by omega) (h2.sc w5 w6) t3 hi hk
    rw [L_X_runs_98, L_R_runs_72, b1', b2, bnd2_t, bnd2_t, g1, g2', bnd_t, bnd_t, r4, bnd_t, if_neg hle, if_neg hle, sl, u1, u2, bnd_t, bnd_t, et, nI_1]
    exact ⟨w, s4, r4', y1, y2, (w3.tr w5).tr y3, (w4.tr w6).tr y4⟩
end Trial
