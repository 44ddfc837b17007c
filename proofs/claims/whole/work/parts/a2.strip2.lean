/-! a strip reduced: the steps, both classes -/
section Strip2
variable {κ : Ko} {A q l : Nat} {P F : Nat → Int32} {dt rt : AS}
theorem q_pleat (h : SPD dt A l P F) (hq : SPQ rt q l P F) (k : Nat → Int32 → Int32 → AS → Option (Int32 × AS)) : ∀ n i d d', i + n = l → n < d → n < d' →
    (L_Sp_firstPleat_2 κ dt d A (nI i) = some (-1) ∧ L_R_reducesOnce_73 κ k d' q (nI i) rt = some (0, rt)) ∨ ∃ j, j + 1 < l ∧ L_Sp_firstPleat_2 κ dt d A (nI i) = some (nI j) ∧ L_R_reducesOnce_73 κ k d' q (nI i) rt = k q (nI j) (P (j + 1)) rt
  | 0, i, d, d', hi, hd, hd' => by
    obtain ⟨d, rfl⟩ : ∃ z, d = z + 1 := ⟨d - 1, by omega⟩
    obtain ⟨d', rfl⟩ : ∃ z, d' = z + 1 := ⟨d' - 1, by omega⟩
    have := h.1
    rw [L_Sp_firstPleat_2, L_R_reducesOnce_73, nI_1, h.2.1, hq.2.1, if_pos (nI_le (by omega) (by omega)), if_pos (nI_le (by omega) (by omega))]
    exact Or.inl ⟨rfl, rfl⟩
  | n + 1, i, d, d', hi, hd, hd' => by
    obtain ⟨d, rfl⟩ : ∃ z, d = z + 1 := ⟨d - 1, by omega⟩
    obtain ⟨d', rfl⟩ : ∃ z, d' = z + 1 := ⟨d' - 1, by omega⟩
    have hl := h.1
    have ih := q_pleat h hq k n (i + 1) d d' (by omega) (by omega) (by omega)
    by_cases hlt : i + 1 < l
    · have a0 := h.2.2.1 i (by omega)
      have a1 := h.2.2.1 (i + 1) (by omega)
      have a2 := h.2.2.1 (i + 2) (by omega)
      have f0 := h.2.2.2 i (by omega)
      have f1 := h.2.2.2 (i + 1) (by omega)
      have b0 := hq.2.2.1 i (by omega)
      have b1 := hq.2.2.1 (i + 1) (by omega)
      have b2 := hq.2.2.1 (i + 2) (by omega)
      have g0 := hq.2.2.2 i (by omega)
      have g1 := hq.2.2.2 (i + 1) (by omega)
      have z10 : ¬ (1 : Int32) = 0 := by decide
      rw [L_Sp_firstPleat_2, L_R_reducesOnce_73, nI_1, nI_k _ 2 (y := 2) rfl, h.2.1, hq.2.1, if_neg (nI_ge hlt (by omega)), if_neg (nI_ge hlt (by omega))]
      simp only [jn_e, if_true, eq_false z10, if_false]
      rw [gat_n (j := i) rfl (by omega) (by decide), gat_n (j := i + 1) rfl (by omega) (by decide), gat_n (j := i + 2) rfl (by omega) (by decide), gat_n (j := i) rfl (by omega) (by decide), gat_n (j := i + 1) rfl (by omega) (by decide), a0, a1, a2, f0, f1,
        grd_t (vp_in_nI (by omega) (by decide)), grd_t (vp_in_nI (by omega) (by decide)), grd_t (vp_in_nI (by omega) (by decide)), grd_t (vp_in_nI (by omega) (by decide)), grd_t (vp_in_nI (by omega) (by decide)), nI_clamp (by omega), nI_clamp (by omega), nI_clamp (by omega), b0, b1, b2, g0, g1]
      by_cases c1 : F i = F (i + 1)
      · rw [if_pos c1, if_pos c1, ite_self, ite_self]
        exact ih
      · rw [if_neg c1, if_neg c1]
        by_cases c2 : P i < P (i + 1)
        · rw [if_pos c2, if_pos c2]; exact ih
        · rw [if_neg c2, if_neg c2]
          by_cases c3 : P (i + 2) < P (i + 1)
          · rw [if_pos c3, if_neg (Int32.not_le.mpr c3)]; exact ih
          · rw [if_neg c3, if_pos (Int32.not_lt.mp c3)]
            exact Or.inr ⟨i, hlt, rfl, rfl⟩
    · rw [L_Sp_firstPleat_2, L_R_reducesOnce_73, nI_1, h.2.1, hq.2.1, if_pos (nI_le (by omega) (by omega)), if_pos (nI_le (by omega) (by omega))]
      exact Or.inl ⟨rfl, rfl⟩
def updI (P : Nat → Int32) (j : Nat) (v : Int32) : Nat → Int32 := fun i => if i = j then v else P i
noncomputable def plK (κ : Ko) : Nat → Int32 → Int32 → AS → Option (Int32 × AS) := fun v15 v17 v18 s19 => grd (vp_in v17 21) (grd (vp_in (v17 + 2) 21) (grd (vp_in v17 21) (bnd (f_R_goes κ v15 v17 (v17 + 1) (ui s19 (v15 + 17) (v17 : Int32).toNatClampNeg ((gi s19 (v15 + 17) (v17 : Int32).toNatClampNeg) + ((gi s19 (v15 + 17) (v17 + 2 : Int32).toNatClampNeg) - v18)))) (fun s23 => bnd (f_R_goes κ v15 v17 (v17 + 1) s23) (fun s24 => some ((1 : Int32), s24))))))
theorem once_e (κ : Ko) (a0 : Nat) (st : AS) : f_R_reducesOnce κ a0 st = if (gi st a0 29) = 0 then some ((0 : Int32), st) else grd (vp_in 0 21) (grd (vp_in 1 21) (if (gi st (a0 + 17) (1 : Int32).toNatClampNeg) < (gi st (a0 + 17) (0 : Int32).toNatClampNeg) then grd (vp_in (gi st a0 29) 21) (grd (vp_in ((gi st a0 29) - 1) 21) (if (gi st (a0 + 17) ((gi st a0 29) - 1 : Int32).toNatClampNeg) < (gi st (a0 + 17) (gi st a0 29 : Int32).toNatClampNeg) then L_R_reducesOnce_73 κ (plK κ) FU a0 (0 : Int32) st else bnd (f_R_goes κ a0 ((gi st a0 29) - 1) (gi st a0 29) st) (fun s25 => some ((1 : Int32), s25)))) else bnd (f_R_goes κ a0 (0 : Int32) (0 : Int32) st) (fun s26 => some ((1 : Int32), s26)))) := rfl
/-- one step -/
theorem q_once (h : SPD dt A l P F) (hq : SPQ rt q l P F) : (f_Sp_reduceOnce κ A dt = some (0, dt) ∧ f_R_reducesOnce κ q rt = some (0, rt)) ∨
    ∃ (l' : Nat) (P' F' : Nat → Int32) (dt' rt' : AS), l' < l ∧ f_Sp_reduceOnce κ A dt = some (1, dt') ∧ f_R_reducesOnce κ q rt = some (1, rt') ∧ SPD dt' A l' P' F' ∧ SPQ rt' q l' P' F' ∧ gi dt' A 6 = gi dt A 6 ∧ gi rt' q 30 = gi rt q 30 ∧ Same (sprW A) dt dt' ∧ Same (sqW q) rt rt' := by
  have hl := h.1
  have k0 : (0 : Int32).toNatClampNeg = 0 := rfl
  have k1 : (1 : Int32).toNatClampNeg = 1 := rfl
  rw [once_e]
  unfold f_Sp_reduceOnce
  rw [h.2.1, hq.2.1, k0, k1]
  by_cases hl0 : l = 0
  · rw [hl0, if_pos (show nI 0 = 0 from rfl), if_pos (show nI 0 = 0 from rfl)]
    exact Or.inl ⟨rfl, rfl⟩
  · obtain ⟨m, rfl⟩ : ∃ m, l = m + 1 := ⟨l - 1, by omega⟩
    have hn0 : ¬ nI (m + 1) = 0 := fun z => by have := (nI_eq (b := 0) (by omega) (by decide)).mp z; omega
    rw [if_neg hn0, if_neg hn0, grd_t (show vp_in 0 21 from vp_in_nI (n := 0) (by decide) (by decide)), grd_t (show vp_in 1 21 from vp_in_nI (n := 1) (by decide) (by decide)), gat_n (i := 1) (j := 1) rfl (by omega) (by decide), gat_n (i := 0) (j := 0) rfl (by omega) (by decide), h.2.2.1 1 (by omega), h.2.2.1 0 (by omega), hq.2.2.1 1 (by omega), hq.2.2.1 0 (by omega)]
    by_cases c1 : P 1 < P 0
    · rw [if_pos c1, if_pos c1, show nI (m + 1) - 1 = nI m from nI_pred m, gat_n (j := m) rfl (by omega) (by decide), gat_n (j := m + 1) rfl (by omega) (by decide), h.2.2.1 m (by omega), h.2.2.1 (m + 1) (by omega), grd_t (vp_in_nI (by omega) (by decide)), grd_t (vp_in_nI (by omega) (by decide)), nI_clamp (by omega), nI_clamp (by omega), hq.2.2.1 m (by omega), hq.2.2.1 (m + 1) (by omega)]
      by_cases c2 : P m < P (m + 1)
      · rw [if_pos c2, if_pos c2]
        unfold f_Sp_firstPleat
        rcases q_pleat (κ := κ) h hq (plK κ) (m + 1) 0 FU FU (by omega) (FUn (by omega)) (FUn (by omega)) with ⟨z1, z2⟩ | ⟨j, hj, z1, z2⟩
        · have z1' : L_Sp_firstPleat_2 κ dt FU A 0 = some (-1) := z1
          have z2' : L_R_reducesOnce_73 κ (plK κ) FU q 0 rt = some (0, rt) := z2
          rw [z1', bnd_t, if_pos rfl, z2']
          exact Or.inl ⟨rfl, rfl⟩
        · have z1' : L_Sp_firstPleat_2 κ dt FU A 0 = some (nI j) := z1
          have z2' : L_R_reducesOnce_73 κ (plK κ) FU q 0 rt = plK κ q (nI j) (P (j + 1)) rt := z2
          right
          have hml : m + 1 = (m - 1) + 2 := by omega
          rw [z1', bnd_t, if_neg (nI_ne1 (by omega)), z2', nI_k _ 2 (y := 2) rfl, nI_1, gat_n (j := j) rfl (by omega) (by decide), gat_n (j := j + 2) rfl (by omega) (by decide), gat_n (j := j + 1) rfl (by omega) (by decide), gput_n (j := j + 2) rfl (by omega) (by decide), h.2.2.1 j (by omega), h.2.2.1 (j + 2) (by omega), h.2.2.1 (j + 1) (by omega)]
          unfold plK
          rw [nI_k _ 2 (y := 2) rfl, nI_1, grd_t (vp_in_nI (by omega) (by decide)), grd_t (vp_in_nI (by omega) (by decide)), grd_t (vp_in_nI (by omega) (by decide)), nI_clamp (by omega), nI_clamp (by omega), hq.2.2.1 j (by omega), hq.2.2.1 (j + 2) (by omega)]
          have ev : P j + (P (j + 2) - P (j + 1)) = P j + P (j + 2) - P (j + 1) := by rw [Int32.sub_eq_add_neg, Int32.sub_eq_add_neg, Int32.add_assoc]
          rw [ev]
          generalize P j + P (j + 2) - P (j + 1) = v
          have hD1 : SPD (ui dt (A + 3) (j + 2) v) A ((m - 1) + 2) (updI P (j + 2) v) F := ⟨by omega, by rw [gi_ui, if_neg (by omega), ← hml]; exact h.2.1, fun i hi => by
            rw [gi_ui]
            unfold updI
            by_cases e : i = j + 2
            · rw [if_pos ⟨rfl, e⟩, if_pos e]
            · rw [if_neg (fun z => e z.2), if_neg e]; exact h.2.2.1 i (by omega), fun i hi => by rw [gi_ui, if_neg (by omega)]; exact h.2.2.2 i (by omega)⟩
          obtain ⟨d2, y1, y2, y3, y4⟩ := d_close (κ := κ) hD1 (p := j) (by decide) (by omega)
          have hm2 : m = (m - 1) + 1 := by omega
          have hQ1 : SPQ (ui rt (q + 17) j v) q (m + 1) (updI P j v) F := ⟨by omega, by rw [gi_ui, if_neg (by omega)]; exact hq.2.1, fun i hi => by
            rw [gi_ui]
            unfold updI
            by_cases e : i = j
            · rw [if_pos ⟨rfl, e⟩, if_pos e]
            · rw [if_neg (fun z => e z.2), if_neg e]; exact hq.2.2.1 i (by omega), fun i hi => by rw [gi_ui, if_neg (by omega)]; exact hq.2.2.2 i (by omega)⟩
          obtain ⟨r2, x1, x2, x3, x4⟩ := r_goes (κ := κ) hQ1 (p := j + 1) (f := j) (by omega) (by omega)
          have x2' : SPQ r2 q ((m - 1) + 1) (offN (j + 1) 1 (updI P j v)) (offN j 1 F) := by rw [← hm2]; exact x2
          obtain ⟨r3, u1, u2, u3, u4⟩ := r_goes (κ := κ) x2' (p := j + 1) (f := j) (by omega) (by omega)
          have eP : offN (j + 1) 1 (offN (j + 1) 1 (updI P j v)) = offN j 2 (updI P (j + 2) v) := by
            funext i
            unfold offN updI
            by_cases e1 : i < j
            · rw [if_pos (by omega), if_pos (by omega), if_neg (by omega), if_pos e1, if_neg (by omega)]
            · by_cases e2 : i = j
              · rw [if_pos (by omega), if_pos (by omega), if_pos e2, if_neg e1, if_pos (by omega)]
              · rw [if_neg (by omega), if_neg (by omega), if_neg (by omega), if_neg e1, if_neg (by omega)]
          have eF : offN j 1 (offN j 1 F) = offN j 2 F := by
            funext i
            unfold offN
            by_cases e1 : i < j
            · rw [if_pos e1, if_pos e1, if_pos e1]
            · rw [if_neg e1, if_neg (by omega), if_neg e1]
          rw [eP, eF] at u2
          refine ⟨m - 1, _, _, d2, r3, by omega, ?_, ?_, y2, u2, ?_, ?_, ?_, ?_⟩
          · have : f_Sp_closeUp κ A (nI j) 2 (ui dt (A + 3) (j + 2) v) = some d2 := y1
            rw [this, bnd_t]
          · rw [x1, bnd_t, u1, bnd_t]
          · rw [y3, gi_ui, if_neg (by omega)]
          · rw [u3, x3, gi_ui, if_neg (by omega)]
          · exact ((Same.rf _ dt).ui (Or.inl rfl)).tr y4
          · exact (((Same.rf _ rt).ui (Or.inl rfl)).tr x4).tr u4
      · rw [if_neg c2, if_neg c2]
        right
        obtain ⟨r2, x1, x2, x3, x4⟩ := r_goes (κ := κ) hq (p := m + 1) (f := m) (Nat.le_refl _) (Nat.le_refl _)
        rw [x1, bnd_t]
        refine ⟨m, P, F, ui dt A 5 (nI m), r2, by omega, rfl, rfl, ⟨by omega, by rw [gi_ui, if_pos ⟨rfl, rfl⟩], fun i hi => by rw [gi_ui, if_neg (by omega)]; exact h.2.2.1 i (by omega), fun i hi => by rw [gi_ui, if_neg (by omega)]; exact h.2.2.2 i (by omega)⟩, ⟨by omega, x2.2.1, fun i hi => ?_, fun i hi => ?_⟩, by rw [gi_ui, if_neg (by omega)], x3, (Same.rf _ dt).ui (Or.inr (Or.inr ⟨rfl, Or.inl rfl⟩)), x4⟩
        · rw [x2.2.2.1 i hi]; unfold offN; rw [if_pos (by omega)]
        · rw [x2.2.2.2 i hi]; unfold offN; rw [if_pos hi]
    · rw [if_neg c1, if_neg c1]
      right
      obtain ⟨d2, y1, y2, y3, y4⟩ := d_close (κ := κ) (l := m) (g := 1) h (p := 0) (by decide) (by omega)
      obtain ⟨r2, x1, x2, x3, x4⟩ := r_goes (κ := κ) hq (p := 0) (f := 0) (by omega) (by omega)
      have y1' : f_Sp_closeUp κ A 0 1 dt = some d2 := y1
      have x1' : f_R_goes κ q 0 0 rt = some r2 := x1
      rw [y1', bnd_t, x1', bnd_t]
      exact ⟨m, _, _, d2, r2, by omega, rfl, rfl, y2, x2, y3, x3, y4, x4⟩
/-- all the steps -/
theorem q_redL : ∀ n l (P F : Nat → Int32) (dt rt : AS) d d' t, l ≤ n → l + t ≤ 20 → l < d → l < d' → SPD dt A l P F → SPQ rt q l P F → gi dt A 6 = nI t → gi rt q 30 = nI t →
    ∃ (l' : Nat) (P' F' : Nat → Int32) (dt' rt' : AS) (t' : Nat), L_Sp_reduce_53 κ d A dt = some dt' ∧ L_R_reduces_92 κ d' q rt = some rt' ∧ SPD dt' A l' P' F' ∧ SPQ rt' q l' P' F' ∧ gi dt' A 6 = nI t' ∧ gi rt' q 30 = nI t' ∧ Same (sprW A) dt dt' ∧ Same (sqW q) rt rt' := by
  intro n
  induction n with
  | zero =>
    intro l P F dt rt d d' t hl ht hd hd' h hq h6 h30
    obtain ⟨d, rfl⟩ : ∃ z, d = z + 1 := ⟨d - 1, by omega⟩
    obtain ⟨d', rfl⟩ : ∃ z, d' = z + 1 := ⟨d' - 1, by omega⟩
    rcases q_once (κ := κ) h hq with ⟨z1, z2⟩ | ⟨l', P', F', d2, r2, hl', -⟩
    · rw [L_Sp_reduce_53, L_R_reduces_92, z1, z2, bnd2_t, bnd2_t, if_pos rfl, if_pos rfl, ite_self]
      exact ⟨l, P, F, dt, rt, t, rfl, rfl, h, hq, h6, h30, Same.rf _ _, Same.rf _ _⟩
    · omega
  | succ n ih =>
    intro l P F dt rt d d' t hl ht hd hd' h hq h6 h30
    obtain ⟨d, rfl⟩ : ∃ z, d = z + 1 := ⟨d - 1, by omega⟩
    obtain ⟨d', rfl⟩ : ∃ z, d' = z + 1 := ⟨d' - 1, by omega⟩
    rcases q_once (κ := κ) h hq with ⟨z1, z2⟩ | ⟨l', P', F', d2, r2, hl', z1, z2, z3, z4, z5, z6, z7, z8⟩
    · rw [L_Sp_reduce_53, L_R_reduces_92, z1, z2, bnd2_t, bnd2_t, if_pos rfl, if_pos rfl, ite_self]
      exact ⟨l, P, F, dt, rt, t, rfl, rfl, h, hq, h6, h30, Same.rf _ _, Same.rf _ _⟩
    · have w1 : Same (sprW A) dt (ui d2 A 6 (nI (t + 1))) := z7.ui (Or.inr (Or.inr ⟨rfl, Or.inr rfl⟩))
      have w2 : Same (sqW q) rt (ui r2 q 30 (nI (t + 1))) := z8.ui (Or.inr (Or.inr ⟨rfl, Or.inr rfl⟩))
      obtain ⟨l3, P3, F3, d3, r3, t3, y1, y2, y3, y4, y5, y6, y7, y8⟩ := ih l' P' F' (ui d2 A 6 (nI (t + 1))) (ui r2 q 30 (nI (t + 1))) d d' (t + 1) (by omega) (by omega) (by omega) (by omega) ⟨z3.1, by rw [gi_ui, if_neg (by omega)]; exact z3.2.1, fun i hi => by rw [gi_ui, if_neg (by omega)]; exact z3.2.2.1 i hi, fun i hi => by rw [gi_ui, if_neg (by omega)]; exact z3.2.2.2 i hi⟩ ⟨z4.1, by rw [gi_ui, if_neg (by omega)]; exact z4.2.1, fun i hi => by rw [gi_ui, if_neg (by omega)]; exact z4.2.2.1 i hi, fun i hi => by rw [gi_ui, if_neg (by omega)]; exact z4.2.2.2 i hi⟩ (by rw [gi_ui, if_pos ⟨rfl, rfl⟩]) (by rw [gi_ui, if_pos ⟨rfl, rfl⟩])
      have z10 : ¬ (1 : Int32) = 0 := by decide
      have e20 : ¬ (20 : Int32) ≤ nI t := nI_ge (b := 20) (by omega) (by decide)
      rw [L_Sp_reduce_53, L_R_reduces_92, h6, if_neg e20, z1, z2, bnd2_t, bnd2_t, if_neg z10, if_neg z10, z5, z6, h6, h30, nI_1]
      exact ⟨l3, P3, F3, d3, r3, t3, y1, y2, y3, y4, y5, y6, w1.tr y7, w2.tr y8⟩
end Strip2
