/-! a doing done: both classes -/
theorem crs_n {L : List (Nat × Nat)} {K : List c4} {tg tot : Int32} : ∀ n f b S, ∃ c, c ≤ n ∧ (crs L K tg tot n f (nI b) S).2 = nI (b + c)
  | 0, f, b, S => ⟨0, Nat.le_refl _, rfl⟩
  | n + 1, f, b, S => by
    rw [crs]
    by_cases h : gos L K tg tot S f = true
    · rw [if_pos h, nI_1]
      obtain ⟨c, h1, h2⟩ := crs_n n (f + 1) (b + 1) (brkS (wdS (drw S) f ((drw S) 5) tg tot) L K (drw S) f (wyN S f) (lgN S f))
      exact ⟨c + 1, by omega, by rw [h2]; congr 1; omega⟩
    · rw [if_neg h]
      obtain ⟨c, h1, h2⟩ := crs_n n (f + 1) b (drw S)
      exact ⟨c, by omega, h2⟩
theorem nI_ne1 {c : Nat} (h : c < 2 ^ 31) : nI c ≠ (-1 : Int32) := fun e => by
  have := nI_toInt h
  rw [e, show (-1 : Int32).toInt = -1 from rfl] at this
  omega
theorem nI_ge0 {c : Nat} (h : c < 2 ^ 31) : (0 : Int32) ≤ nI c := nI_le (a := 0) (Nat.zero_le _) h
/-- a law that the sheet has, told to both -/
def LWX (κ : Ko) (dt rt : AS) (q l : Nat) (L : List (Nat × Nat)) (K : List c4) : Prop := LWD dt (LA κ l) L K ∧ LWQ rt q l L K ∧ LWT L K
theorem LAWR.x {κ : Ko} {dt rt : AS} {q l : Nat} (h : LAWR dt rt (LA κ l) q l) : ∃ L K, LWX κ dt rt q l L K := by
  obtain ⟨sv, L, K, h1, h2, h3, h4, h5, -, -, -, -, h6, h7⟩ := h
  exact ⟨L, K, ⟨h1, h3⟩, ⟨h2, h4⟩, ⟨h6, h7⟩, h5⟩
section Does
variable {κ : Ko} {dt rt : AS} {a q s l A t : Nat} {L : List (Nat × Nat)} {K Kd : List c4}
theorem q_press (h : SR κ dt a rt q s) (hU : UOK (rw_ rt q s)) (hr : rD (rw_ rt q s) < 60) (hl : LWX κ dt rt q (rw_ rt q s 2).toNatClampNeg L K) (ha : a + 4 < LA κ (rw_ rt q s 2).toNatClampNeg) (x : Int32) :
    ∃ c dt' rt', f_Sh_crush κ a x dt = some (nI c, dt') ∧ f_R_presses κ q (nI s) x rt = some (nI c, rt') ∧ c ≤ 200 ∧ SR κ dt' a rt' q s ∧ UOK (rw_ rt' q s) ∧ rw_ rt' q s 2 = rw_ rt q s 2 ∧ rw_ rt' q s 5 = nI (rD (rw_ rt q s) + 1) ∧ Same (shW κ a) dt dt' ∧ Same (brQ q s) rt rt' := by
  obtain ⟨hD, hk, hs⟩ := h
  obtain ⟨d1, e1, e2, e3⟩ := d_crush hD hk hU hr hl.2.2 hl.1 ha x
  obtain ⟨r1, f1, f2, f3⟩ := r_presses (κ := κ) rfl hs hk hU hr hl.2.2 hl.2.1 x
  obtain ⟨k1, k2, k3, k4⟩ := prR_ok (L := L) (K := K) (x := x) hk hU hr
  obtain ⟨c, c1, c2⟩ := crs_n (L := L) (K := K) (tg := x) (tot := prT (rw_ rt q s)) (nF (rw_ rt q s)) 0 0 (prS (rw_ rt q s))
  have ev : prV L K x (rw_ rt q s) = nI c := c2.trans (congrArg nI (Nat.zero_add c))
  have := (sok_6 hk).2.1
  exact ⟨c, d1, r1, by rw [e1, ev], by rw [f1, ev], by omega, ⟨by rw [f2]; exact e2, by rw [f2]; exact k1, hs⟩, by rw [f2]; exact k2, by rw [f2]; exact k3, by rw [f2]; exact k4, e3, f3⟩
theorem crush_full (h : SR κ dt a rt q s) (hr : ¬ rD (rw_ rt q s) < 60) (x : Int32) : f_Sh_crush κ a x dt = some (-1, dt) := by
  have h5 := (h.2.1.1.2.2.2.2.2.1).cl (by decide)
  rw [crush_e, d_rd h, if_neg (show ¬ nI (rD (rw_ rt q s)) < 60 from fun z => hr ((nI_ltk (m := rD (rw_ rt q s)) (k := 60) (y := 60) rfl (by have := h.rd.2; omega) (by decide)).1.mp z))]
/-- what goes with a sheet -/
def DI (κ : Ko) (dt0 rt0 : AS) (a q s : Nat) (l2 : Int32) (dt rt : AS) : Prop := SR κ dt a rt q s ∧ UOK (rw_ rt q s) ∧ rw_ rt q s 2 = l2 ∧ Same (shW κ a) dt0 dt ∧ Same (brQ q s) rt0 rt
theorem LWX.fr {dt' rt' : AS} (h : LWX κ dt rt q l L K) (hl : l < 6) (ha : a + 4 < LA κ l) (hw : Same (shW κ a) dt dt') (hv : Same (brQ q s) rt rt') : LWX κ dt' rt' q l L K :=
  ⟨h.1.sh hl (Or.inl ha) hw, h.2.1.br hv, h.2.2⟩
/-- the class's act -/
noncomputable def actD (κ : Ko) (a : Nat) (x4 n w : Int32) (st : AS) : Option (Int32 × AS) := if x4 = 0 then bnd2 (f_Sh_crush κ a n st) (fun v4 s5 => some (v4, s5)) else if x4 = 1 then bnd2 (f_Sh_crease κ a w n st) (fun v2 s3 => some (v2, s3)) else bnd (f_Sh_changeSides κ a st) (fun s1 => some (0, s1))
theorem doTo25_e (k : Nat → Nat → Int32 → Int32 → AS → Option (Int32 × AS)) (d A a : Nat) (x2 x3 x4 x5 : Int32) (st : AS) : L_Dg_doTo_25 κ k (d + 1) A a x2 x3 x4 x5 st = if (gat (gi st (A + 3)) 12 x3) ≤ x5 then k A a x2 x3 st else bnd2 (actD κ a x4 (gat (gi st (A + 2)) 12 x3) (gat (gi st (A + 4)) 12 x3) st) (fun v7 s8 => if v7 = ((-1)) then some (x2, s8) else L_Dg_doTo_25 κ k d A a (x2 + 1) x3 x4 (x5 + 1) s8) := by
  rw [L_Dg_doTo_25, jn_e]
  unfold actD
  by_cases h : (gat (gi st (A + 3)) 12 x3) ≤ x5
  · rw [if_pos h, if_pos h]
  · rw [if_neg h, if_neg h]
    by_cases h0 : x4 = 0
    · rw [if_pos h0, if_pos h0]
      cases f_Sh_crush κ a (gat (gi st (A + 2)) 12 x3) st <;> rfl
    · rw [if_neg h0, if_neg h0]
      by_cases h1 : x4 = 1
      · rw [if_pos h1, if_pos h1]
        cases f_Sh_crease κ a (gat (gi st (A + 4)) 12 x3) (gat (gi st (A + 2)) 12 x3) st <;> rfl
      · rw [if_neg h1, if_neg h1]
        cases f_Sh_changeSides κ a st <;> rfl
theorem kd_at (h : KDd dt A Kd) {i : Nat} (hi : i < Kd.length) : gat (gi dt (A + 1)) 12 (nI i) = nI (kg Kd i).1 ∧ gat (gi dt (A + 2)) 12 (nI i) = nI (num3 (kg Kd i)) ∧ gat (gi dt (A + 3)) 12 (nI i) = nI (tms3 (kg Kd i)) ∧ gat (gi dt (A + 4)) 12 (nI i) = nI (way3 (kg Kd i)) := by
  have h1 := h.2.1
  have h2 := h.2.2 i hi
  rw [gat_n (j := i) rfl (by omega) (by decide), gat_n (j := i) rfl (by omega) (by decide), gat_n (j := i) rfl (by omega) (by decide), gat_n (j := i) rfl (by omega) (by decide)]
  exact h2
/-- the acts of one clause -/
theorem q_times (hl6 : l < 6) (ht : t < 12) (hA : a + 4 < A ∧ LA κ 0 ≤ A) (hna : ∀ z, z < 6 → LA κ z + 4 < A ∨ A + 4 < LA κ z + 4) (ha : ∀ z, z < 6 → a + 4 < LA κ z) (hKd : KDd dt A Kd) (hKq : KQd rt q t Kd) (hc : ∀ c, c ∈ Kd → doC c) (hx : LWX κ dt rt q l L K) {i : Nat} (hi : i < Kd.length) (k : Nat → Nat → Int32 → Int32 → AS → Option (Int32 × AS)) (kr : Nat → Int32 → Int32 → Int32 → Int32 → AS → Option (Int32 × AS)) :
    ∀ m j d e x dt1 rt1, j + m = tms3 (kg Kd i) → m < d → m < e → DI κ dt rt a q s (nI l) dt1 rt1 →
    (∃ x' dt2 rt2, L_Dg_doTo_25 κ k d A a x (nI i) (nI (kg Kd i).1) (nI j) dt1 = k A a x' (nI i) dt2 ∧ L_R_does_61 κ kr e q (nI s) (nI t) x (nI i) (nI (60 * t + 5 * i)) (nI (tms3 (kg Kd i))) (nI j) rt1 = kr q (nI s) (nI t) x' (nI i) rt2 ∧ DI κ dt rt a q s (nI l) dt2 rt2) ∨
    (∃ v dt2 rt2, L_Dg_doTo_25 κ k d A a x (nI i) (nI (kg Kd i).1) (nI j) dt1 = some (v, dt2) ∧ L_R_does_61 κ kr e q (nI s) (nI t) x (nI i) (nI (60 * t + 5 * i)) (nI (tms3 (kg Kd i))) (nI j) rt1 = some (v, rt2) ∧ DI κ dt rt a q s (nI l) dt2 rt2) := by
  have hdc := hc _ (kg_mem hi)
  have htm : tms3 (kg Kd i) ≤ 60 := by
    unfold tms3
    unfold doC at hdc
    by_cases z : (kg Kd i).1 = 0
    · rw [if_pos z]; omega
    · rw [if_neg z]; omega
  intro m
  induction m with
  | zero =>
    intro j d e x dt1 rt1 hj hd he hI
    obtain ⟨d, rfl⟩ : ∃ z, d = z + 1 := ⟨d - 1, by omega⟩
    obtain ⟨e, rfl⟩ : ∃ z, e = z + 1 := ⟨e - 1, by omega⟩
    have hKd1 : KDd dt1 A Kd := hKd.of hI.2.2.2.1 (fun j' d' hd' z => by
      rcases z with ⟨⟨z1, z2⟩, -⟩ | ⟨l', hl', z⟩
      · omega
      · have := hna l' hl'; omega)
    left
    refine ⟨x, dt1, rt1, ?_, ?_, hI⟩
    · rw [doTo25_e, (kd_at hKd1 hi).2.2.1, if_pos (nI_le (by omega) (by omega))]
    · rw [L_R_does_61, if_pos (nI_le (by omega) (by omega))]
  | succ m ih =>
    intro j d e x dt1 rt1 hj hd he hI
    obtain ⟨d, rfl⟩ : ∃ z, d = z + 1 := ⟨d - 1, by omega⟩
    obtain ⟨e, rfl⟩ : ∃ z, e = z + 1 := ⟨e - 1, by omega⟩
    have hKd1 : KDd dt1 A Kd := hKd.of hI.2.2.2.1 (fun j' d' hd' z => by
      rcases z with ⟨⟨z1, z2⟩, -⟩ | ⟨l', hl', z⟩
      · omega
      · have := hna l' hl'; omega)
    have hKq1 : KQd rt1 q t Kd := hKq.of hI.2.2.2.2 (fun z => by unfold brQ exQ at z; omega) (fun j' _ z => by unfold brQ exQ at z; omega)
    have hlen := hKd.2.1
    obtain ⟨hSR, hU, h2, hw, hv⟩ := hI
    have hs := hSR.2.2
    have hx1 : LWX κ dt1 rt1 q l L K := hx.fr hl6 (ha l hl6) hw hv
    have en : (rw_ rt1 q s 2).toNatClampNeg = l := by rw [h2, nI_clamp (by omega)]
    have hrd : rw_ rt1 q s 5 = nI (rD (rw_ rt1 q s)) := hSR.rd.1
    have hrd60 := hSR.rd.2
    obtain ⟨q0, q1, q2⟩ := hKq1.2.2 i hi
    have n0 : vp_in (nI (60 * t + 5 * i)) 1080 := vp_in_nI (by omega) (by decide)
    have n1 : vp_in (nI (60 * t + 5 * i) + 1) 1080 := by rw [nI_1]; exact vp_in_nI (by omega) (by decide)
    have n2 : vp_in (nI (60 * t + 5 * i) + 2) 1080 := by rw [nI_k _ 2 (y := 2) rfl]; exact vp_in_nI (by omega) (by decide)
    have c0 : (nI (60 * t + 5 * i)).toNatClampNeg = 60 * t + 5 * i := nI_clamp (by omega)
    have c1 : (nI (60 * t + 5 * i) + 1).toNatClampNeg = 60 * t + 5 * i + 1 := by rw [nI_1]; exact nI_clamp (by omega)
    have c2 : (nI (60 * t + 5 * i) + 2).toNatClampNeg = 60 * t + 5 * i + 2 := by rw [nI_k _ 2 (y := 2) rfl]; exact nI_clamp (by omega)
    obtain ⟨-, k2, k3, k4⟩ := kd_at hKd1 hi
    rw [doTo25_e, k3, if_neg (nI_ge (by omega) (by omega)), k2, k4, L_R_does_61, if_neg (nI_ge (by omega) (by omega))]
    simp only [jn_e, grd_t n0, grd_t n1, grd_t n2, c0, c1, c2]
    rw [q0, q1, q2]
    have hdc' := hdc
    unfold doC at hdc'
    rcases hdc' with ⟨z, z1, z2⟩ | ⟨z, z1, z2⟩ | ⟨z, z1, z2⟩
    · -- a press
      have en3 : num3 (kg Kd i) = (kg Kd i).2.1 := by unfold num3; rw [if_pos z]
      rw [z, en3]
      unfold actD
      rw [if_pos (show nI 0 = 0 from rfl), if_pos (show nI 0 = 0 from rfl), rs_any (k := 5) (y := 5) rfl hs (by decide) rfl, bnd_t, hrd, if_neg (show ¬ nI 0 = 1 by decide)]
      by_cases hr : rD (rw_ rt1 q s) < 60
      · obtain ⟨c, d2, r2, p1, p2, p3, p4, p5, p6, p7, p8, p9⟩ := q_press hSR hU hr (by rw [en]; exact hx1) (by rw [en]; exact ha l hl6) (nI (kg Kd i).2.1)
        have hKq2 : KQd r2 q t Kd := hKq1.of p9 (fun z => by unfold brQ exQ at z; omega) (fun j' _ z => by unfold brQ exQ at z; omega)
        obtain ⟨q0', -, -⟩ := hKq2.2.2 i hi
        rw [if_neg (show ¬ nI (rD (rw_ rt1 q s)) = 60 from fun y => by have := (nI_ltk (m := rD (rw_ rt1 q s)) (k := 60) (y := 60) rfl (by omega) (by decide)).2.2.2.2.mp y; omega), if_pos (show nI 0 = 0 from rfl), p1, bnd2_t, bnd2_t, p2, bnd2_t, q0', z, if_neg (show ¬ nI 0 = 2 by decide), if_neg (nI_ne1 (by omega)), nI_1]
        have hh := ih (j + 1) d e (x + 1) d2 r2 (by omega) (by omega) (by omega) ⟨p4, p5, by rw [p6]; exact h2, hw.tr p8, hv.tr p9⟩
        rw [z] at hh
        exact hh
      · rw [crush_full hSR hr, bnd2_t, bnd2_t, if_pos rfl, if_pos (show nI (rD (rw_ rt1 q s)) = 60 by rw [show rD (rw_ rt1 q s) = 60 by omega]; rfl)]
        exact Or.inr ⟨x, dt1, rt1, rfl, rfl, hSR, hU, h2, hw, hv⟩
    · -- a fold
      have en3 : num3 (kg Kd i) = (kg Kd i).2.2.1 := by unfold num3; rw [if_neg (by omega), if_pos z]
      have ew3 : way3 (kg Kd i) = (kg Kd i).2.1 := by unfold way3; rw [if_pos z]
      rw [z, en3, ew3]
      unfold actD
      obtain ⟨v, d2, r2, p1, p2, p3, p4, p5, p6, p7, p8⟩ := q_crease2 hSR (w := (kg Kd i).2.1) (by omega) (nI (kg Kd i).2.2.1)
      have hKq2 : KQd r2 q t Kd := hKq1.of (fr_br p5) (fun z => by unfold brQ exQ at z; omega) (fun j' _ z => by unfold brQ exQ at z; omega)
      obtain ⟨q0', -, -⟩ := hKq2.2.2 i hi
      rw [if_neg (show ¬ nI 1 = 0 by decide), if_neg (show ¬ nI 1 = 0 by decide), if_pos (show nI 1 = 1 from rfl), if_pos (show nI 1 = 1 from rfl), p1, bnd2_t, bnd2_t, p2, bnd2_t, q0', z, if_neg (show ¬ nI 1 = 0 by decide), if_neg (show ¬ nI 1 = 2 by decide)]
      rcases p8 with rfl | ⟨c, hc2, rfl⟩
      · rw [if_pos rfl, if_neg (show ¬ (0 : Int32) ≤ -1 by decide)]
        exact Or.inr ⟨x, d2, r2, rfl, rfl, p3, p6 hU, by rw [p7]; exact h2, hw.tr p4, hv.tr (fr_br p5)⟩
      · rw [if_neg (nI_ne1 (by omega)), if_pos (nI_ge0 (by omega)), nI_1]
        have hh := ih (j + 1) d e (x + 1) d2 r2 (by omega) (by omega) (by omega) ⟨p3, p6 hU, by rw [p7]; exact h2, hw.tr p4, hv.tr (fr_br p5)⟩
        rw [z] at hh
        exact hh
    · -- a turn
      rw [z]
      unfold actD
      obtain ⟨d2, r2, p1, p2, p3, p4, p5, p6⟩ := q_turn2 hSR
      have h20 : ¬ nI 2 = 0 := by decide
      have h21 : ¬ nI 2 = 1 := by decide
      have h22 : nI 2 = 2 := rfl
      simp only [if_neg h20, if_neg h21, if_pos h22]
      rw [p1, bnd_t, bnd2_t, p2, bnd_t, if_neg (show ¬ (0 : Int32) = -1 by decide), nI_1]
      have hh := ih (j + 1) d e (x + 1) d2 r2 (by omega) (by omega) (by omega) ⟨p3, by rw [p6]; exact uok_turn hSR.nf.2.1 hU, by rw [p6, turnS_lo (by decide) (by decide)]; exact h2, hw.tr p4, hv.tr (fr_br p5)⟩
      rw [z] at hh
      exact hh
end Does
