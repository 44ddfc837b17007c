section Pure2
variable {κ : Ko} {dt rt : AS} {a q s : Nat}
/-- the sum under the curve -/
theorem q_curveSum (h : SR κ dt a rt q s) (x2 : Int32) (k29 : Nat → Int32 → Option Int32) (k70 : Nat → Int32 → Int32 → Int32 → Int32 → Option Int32) : ∃ n, n ≤ 288000000 ∧ L_Sh_curveHeight_4 κ dt k29 FU a 0 1 = k29 a (nI n) ∧ L_R_curve_40 κ rt k70 FU q (nI s) x2 (nI (rD (rw_ rt q s))) 0 1 = k70 q (nI s) x2 (nI (rD (rw_ rt q s))) (nI n) := by
  have hn := h.rd.2
  refine lk2 (fun d t i => L_Sh_curveHeight_4 κ dt k29 d a t i) (fun d t i => L_R_curve_40 κ rt k70 d q (nI s) x2 (nI (rD (rw_ rt q s))) t i) (fun x y => ∃ n, n ≤ 288000000 ∧ x = k29 a (nI n) ∧ y = k70 q (nI s) x2 (nI (rD (rw_ rt q s))) (nI n)) (fun i t => ∃ n, t = nI n ∧ n + 4800000 ≤ 4800000 * i) (n := rD (rw_ rt q s) + 1) ?_ ?_ ((rD (rw_ rt q s) + 1) - 1) 1 FU (0) (by omega) (FUn (by omega)) ⟨0, rfl, by omega⟩
  · rintro d t ⟨n, rfl, h2⟩
    rw [L_Sh_curveHeight_4, L_R_curve_40, d_rd h, if_pos (nI_lt (by omega) (by omega)), if_pos (nI_lt (by omega) (by omega))]
    exact ⟨n, by omega, rfl, rfl⟩
  · rintro d t i hi ⟨n, rfl, h2⟩ ih
    obtain ⟨v, h3, g1, g2⟩ := q_cameN h (nI i) (nI i)
    rw [L_Sh_curveHeight_4, L_R_curve_40, d_rd h, if_neg (nI_nlt (by omega) (by omega)), if_neg (nI_nlt (by omega) (by omega)), g1, g2, bnd_t, bnd_t, nI_1, nI_mul, nI_mul, Nat.mul_comm v i, nI_add]
    have : i * v ≤ 60 * 80000 := Nat.mul_le_mul (by omega) h3
    exact ih _ ⟨_, rfl, by omega⟩
theorem fdiv_n {x y : Nat} (st : AS) (hx : x < 2 ^ 31) (h0 : 0 < y) (hy : y < 2 ^ 31) : f_Jm_floorDiv κ (nI x) (nI y) st = some (nI x / nI y) := by
  unfold f_Jm_floorDiv
  rw [grd_t (nI_ne0 h0 hy), ifl_n hx hy]
theorem q_curve (h : SR κ dt a rt q s) (h0 : 0 < rD (rw_ rt q s)) : ∃ c o, f_Sh_curveHeight κ a dt = some c ∧ f_Sh_offCurve κ a dt = some o ∧ ∀ x2, L_R_curve_40 κ rt (fun (v5 : Nat) (v7 : Int32) (v8 : Int32) (v9 : Int32) (v10 : Int32) => grd (¬ v9 = 0) (L_R_curve_82 κ rt (fun (v16 : Int32) (v17 : Int32) (v18 : Int32) => some (if v16 = 0 then v17 else v18 : Int32)) FU v5 v7 v8 v9 (v10 / v9) (0 : Int32) (1 : Int32))) FU q (nI s) x2 (rw_ rt q s 5) 0 1 = some (if x2 = 0 then c else o) := by
  have hn := h.rd.2
  have hz := nI_ne0 h0 (show rD (rw_ rt q s) < 2 ^ 31 by omega)
  obtain ⟨n, n1, n2, -⟩ := q_curveSum h 0 (fun (v4 : Nat) (v6 : Int32) => if (gi dt v4 10) = 0 then some (0 : Int32) else bnd (f_Jm_floorDiv κ v6 (gi dt v4 10) dt) (fun v7 => some v7)) (fun _ _ _ _ x => some x)
  have hc : f_Sh_curveHeight κ a dt = some (nI n / nI (rD (rw_ rt q s))) := by
    unfold f_Sh_curveHeight
    rw [n2]
    simp only [d_rd h]
    rw [if_neg hz, fdiv_n dt (by omega) h0 (by omega), bnd_t]
  have hdiv : nI n / nI (rD (rw_ rt q s)) = nI (n / rD (rw_ rt q s)) := pk_div (by omega) h0 (by omega)
  have hle : n / rD (rw_ rt q s) ≤ n := Nat.div_le_self _ _
  have hoff : ∀ x2, ∃ o, L_Sh_offCurve_9 κ dt FU a (nI n / nI (rD (rw_ rt q s))) 0 1 = some o ∧ L_R_curve_82 κ rt (fun (v16 : Int32) (v17 : Int32) (v18 : Int32) => some (if v16 = 0 then v17 else v18 : Int32)) FU q (nI s) x2 (nI (rD (rw_ rt q s))) (nI n / nI (rD (rw_ rt q s))) 0 1 = some (if x2 = 0 then nI n / nI (rD (rw_ rt q s)) else o) := by
    intro x2
    rw [hdiv]
    refine lk2 (fun d t i => L_Sh_offCurve_9 κ dt d a (nI (n / rD (rw_ rt q s))) t i) (fun d t i => L_R_curve_82 κ rt (fun (v16 : Int32) (v17 : Int32) (v18 : Int32) => some (if v16 = 0 then v17 else v18 : Int32)) d q (nI s) x2 (nI (rD (rw_ rt q s))) (nI (n / rD (rw_ rt q s))) t i) (fun x y => ∃ o, x = some o ∧ y = some (if x2 = 0 then nI (n / rD (rw_ rt q s)) else o)) (fun i _ => 1 ≤ i) (n := rD (rw_ rt q s) + 1) ?_ ?_ ((rD (rw_ rt q s) + 1) - 1) 1 FU (0) (by omega) (FUn (by omega)) (by omega)
    · intro d t _
      rw [L_Sh_offCurve_9, L_R_curve_82, d_rd h, if_pos (nI_lt (by omega) (by omega)), if_pos (nI_lt (by omega) (by omega))]
      exact ⟨t, rfl, rfl⟩
    · intro d t i hi h1 ih
      obtain ⟨v, h3, g1, g2⟩ := q_cameN h (nI i) (nI i)
      rw [L_Sh_offCurve_9, L_R_curve_82, d_rd h, if_neg (nI_nlt (by omega) (by omega)), if_neg (nI_nlt (by omega) (by omega)), g1, g2, bnd_t, bnd_t, fdiv_n dt (by omega) h1 (by omega), bnd_t, grd_t (nI_ne0 h1 (by omega)), nI_1]
      exact ih _ (by omega)
  obtain ⟨o, o1, -⟩ := hoff 0
  refine ⟨nI n / nI (rD (rw_ rt q s)), o, hc, ?_, ?_⟩
  · unfold f_Sh_offCurve
    rw [hc, bnd_t, o1]
  · intro x2
    obtain ⟨m, m1, m2, m3⟩ := q_curveSum h x2 (fun (v4 : Nat) (v6 : Int32) => if (gi dt v4 10) = 0 then some (0 : Int32) else bnd (f_Jm_floorDiv κ v6 (gi dt v4 10) dt) (fun v7 => some v7)) (fun (v5 : Nat) (v7 : Int32) (v8 : Int32) (v9 : Int32) (v10 : Int32) => grd (¬ v9 = 0) (L_R_curve_82 κ rt (fun (v16 : Int32) (v17 : Int32) (v18 : Int32) => some (if v16 = 0 then v17 else v18 : Int32)) FU v5 v7 v8 v9 (v10 / v9) (0 : Int32) (1 : Int32)))
    rw [h.rd.1, m3, grd_t hz]
    have e : nI m / nI (rD (rw_ rt q s)) = nI n / nI (rD (rw_ rt q s)) := by
      have e1 : f_Sh_curveHeight κ a dt = some (nI m / nI (rD (rw_ rt q s))) := by
        unfold f_Sh_curveHeight
        rw [m2]
        simp only [d_rd h]
        rw [if_neg hz, fdiv_n dt (by omega) h0 (by omega), bnd_t]
      rw [hc] at e1
      exact (Option.some.inj e1).symm
    rw [e]
    obtain ⟨o', p1, p2⟩ := hoff x2
    rw [o1] at p1
    cases p1
    exact p2
/-- the first round that isn't below -/
theorem q_often (h : SR κ dt a rt q s) (own : Int32) : ∃ v, f_Sh_firstRoundNotBelow κ a own dt = some v ∧ L_R_often_43 κ FU q (nI s) own 0 rt = some (v, rt) := by
  have hn := h.rd.2
  unfold f_Sh_firstRoundNotBelow
  refine lk2 (fun d t i => L_Sh_firstRoundNotBelow_2 κ dt d a own i) (fun d t i => L_R_often_43 κ d q (nI s) own i rt) (fun x y => ∃ v, x = some v ∧ y = some (v, rt)) (fun _ _ => True) (n := rD (rw_ rt q s) + 1) ?_ ?_ ((rD (rw_ rt q s) + 1) - 0) 0 FU (()) (by omega) (FUn (by omega)) trivial
  · intro d t _
    rw [L_Sh_firstRoundNotBelow_2, L_R_often_43, d_rd h, if_pos (nI_lt (by omega) (by omega)), rs5 h, bnd_t, h.rd.1, if_pos (nI_lt (by omega) (by omega))]
    exact ⟨_, rfl, rfl⟩
  · intro d t i hi _ ih
    obtain ⟨v, h3, g1, g2⟩ := q_cameN h 0 (nI i)
    rw [L_Sh_firstRoundNotBelow_2, L_R_often_43, d_rd h, if_neg (nI_nlt (by omega) (by omega)), rs5 h, bnd_t, h.rd.1, if_neg (nI_nlt (by omega) (by omega)), g1, g2, bnd_t, bnd_t, nI_1]
    by_cases hc : nI v < own
    · rw [if_pos hc, if_pos hc]; exact ih () trivial
    · rw [if_neg hc, if_neg hc]; exact ⟨_, rfl, rfl⟩
/-- soft ridges -/
def SofH (κ : Ko) (dt rt : AS) (q : Nat) (S : Nat → Int32) : Prop := gi rt (q + 7) (S 2).toNatClampNeg = gi dt (LA κ (S 2).toNatClampNeg) 6
theorem q_softs (h : SR κ dt a rt q s) (hs : SofH κ dt rt q (rw_ rt q s)) (x2 : Int32) (k : Nat → Int32 → Int32 → Int32 → Option Int32) : ∃ v, f_Sh_softRidges κ a dt = some v ∧ L_R_of_38 κ rt k FU q (nI s) x2 0 0 = k q (nI s) x2 v := by
  have hn := h.nr.2
  unfold f_Sh_softRidges
  refine lk2 (fun d t i => L_Sh_softRidges_4 κ dt d a t i) (fun d t i => L_R_of_38 κ rt k d q (nI s) x2 t i) (fun x y => ∃ v, x = some v ∧ y = k q (nI s) x2 v) (fun _ _ => True) (n := nR (rw_ rt q s)) ?_ ?_ ((nR (rw_ rt q s)) - 0) 0 FU (0) (by omega) (FUn (by omega)) trivial
  · intro d t _
    rw [L_Sh_softRidges_4, L_R_of_38, d_nr h, if_pos (nI_le (Nat.le_refl _) (by omega)), rs7 h, bnd_t, h.nr.1, if_pos (nI_le (Nat.le_refl _) (by omega))]
    exact ⟨_, rfl, rfl⟩
  · intro d t i hi _ ih
    rw [L_Sh_softRidges_4, L_R_of_38, d_nr h, if_neg (nI_ge hi (by omega)), rs7 h, bnd_t, h.nr.1, if_neg (nI_ge hi (by omega)), d_soft h hi, r_soft h hs hi, bnd_t, bnd_t, nI_1]
    exact ih _ trivial
/-- strength -/
theorem q_strength (h : SR κ dt a rt q s) (hs : SofH κ dt rt q (rw_ rt q s)) {x : Int32} (hx : ¬ x = 0) : Both (f_Sh_strengthAt κ a x dt) (L_R_strength_27 κ rt (fun (v13 : Int32) (v14 : Int64) => grd (¬ ((v13 : Int32).toInt64) = 0) (some (((v14 * 100) / ((v13 : Int32).toInt64) : Int64).toInt32))) FU q (nI s) x (0 : Int64) (0 : Int32)) := by
  have hn := h.nr.2
  have hx' : ¬ x.toInt64 = 0 := fun e => hx (by
    have e2 : x.toInt64.toInt = 0 := by rw [e]; rfl
    rw [Int32.toInt_toInt64] at e2
    exact Int32.toInt_inj.mp e2)
  unfold f_Sh_strengthAt
  refine lk2 (fun d t i => L_Sh_strengthAt_5 κ dt (fun (v11 : Int32) (v12 : Int64) => if v11 = 0 then some (0 : Int32) else grd (¬ ((v11 : Int32).toInt64) = 0) (some (((v12 * 100) / ((v11 : Int32).toInt64) : Int64).toInt32))) d a x t i) (fun d t i => L_R_strength_27 κ rt (fun (v13 : Int32) (v14 : Int64) => grd (¬ ((v13 : Int32).toInt64) = 0) (some (((v14 * 100) / ((v13 : Int32).toInt64) : Int64).toInt32))) d q (nI s) x t i) Both (fun _ _ => True) (n := nR (rw_ rt q s)) ?_ ?_ ((nR (rw_ rt q s)) - 0) 0 FU ((0 : Int64)) (by omega) (FUn (by omega)) trivial
  · intro d t _
    rw [L_Sh_strengthAt_5, L_R_strength_27, d_nr h, if_pos (nI_le (Nat.le_refl _) (by omega)), rs7 h, bnd_t, h.nr.1, if_pos (nI_le (Nat.le_refl _) (by omega))]
    rw [if_neg hx, grd_t hx']
    exact Both.mk _
  · intro d t i hi _ ih
    rw [L_Sh_strengthAt_5, L_R_strength_27, d_nr h, if_neg (nI_ge hi (by omega)), rs7 h, bnd_t, h.nr.1, if_neg (nI_ge hi (by omega)), d_len h hi, r_len h hi, dr6 h hi, rr6 h hi, d_soft h hi, r_soft h hs hi, bnd_t, bnd_t, bnd_t, bnd_t, bnd_t, bnd_t, nI_1]
    exact ih _ trivial
end Pure2
