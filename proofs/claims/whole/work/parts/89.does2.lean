/-! a whole doing done -/
section Does2
variable {κ : Ko} {dt rt : AS} {a q s l A t : Nat} {L : List (Nat × Nat)} {K Kd : List c4}
theorem q_outer (hl6 : l < 6) (ht : t < 12) (hA : a + 4 < A ∧ LA κ 0 ≤ A) (hna : ∀ z, z < 6 → LA κ z + 4 < A ∨ A + 4 < LA κ z + 4) (ha : ∀ z, z < 6 → a + 4 < LA κ z) (hKd : KDd dt A Kd) (hKq : KQd rt q t Kd) (hc : ∀ c, c ∈ Kd → doC c) (hx : LWX κ dt rt q l L K) :
    ∀ n i d e x dt1 rt1, i + n = Kd.length → n < d → n < e → DI κ dt rt a q s (nI l) dt1 rt1 →
    ∃ v dt2 rt2, L_Dg_doTo_4 κ d A a x (nI i) dt1 = some (v, dt2) ∧ L_R_does_11 κ e q (nI s) (nI t) x (nI i) rt1 = some (v, rt2) ∧ DI κ dt rt a q s (nI l) dt2 rt2 := by
  have hlen := hKd.2.1
  intro n
  induction n with
  | zero =>
    intro i d e x dt1 rt1 hi hd he hI
    obtain ⟨d, rfl⟩ : ∃ z, d = z + 1 := ⟨d - 1, by omega⟩
    obtain ⟨e, rfl⟩ : ∃ z, e = z + 1 := ⟨e - 1, by omega⟩
    have hKd1 : KDd dt1 A Kd := hKd.of hI.2.2.2.1 (fun j' d' hd' z => by
      rcases z with ⟨⟨z1, z2⟩, -⟩ | ⟨l', hl', z⟩
      · omega
      · have := hna l' hl'; omega)
    have hKq1 : KQd rt1 q t Kd := hKq.of hI.2.2.2.2 (fun z => by unfold brQ exQ at z; omega) (fun j' _ z => by unfold brQ exQ at z; omega)
    refine ⟨x, dt1, rt1, ?_, ?_, hI⟩
    · rw [L_Dg_doTo_4, hKd1.1, if_pos (nI_le (by omega) (by omega))]
    · rw [L_R_does_11, grd_t (vp_in_nI (by omega) (by decide)), nI_clamp (by omega), hKq1.1, if_pos (nI_le (by omega) (by omega))]
  | succ n ih =>
    intro i d e x dt1 rt1 hi hd he hI
    obtain ⟨d, rfl⟩ : ∃ z, d = z + 1 := ⟨d - 1, by omega⟩
    obtain ⟨e, rfl⟩ : ∃ z, e = z + 1 := ⟨e - 1, by omega⟩
    have hi' : i < Kd.length := by omega
    have hKd1 : KDd dt1 A Kd := hKd.of hI.2.2.2.1 (fun j' d' hd' z => by
      rcases z with ⟨⟨z1, z2⟩, -⟩ | ⟨l', hl', z⟩
      · omega
      · have := hna l' hl'; omega)
    have hKq1 : KQd rt1 q t Kd := hKq.of hI.2.2.2.2 (fun z => by unfold brQ exQ at z; omega) (fun j' _ z => by unfold brQ exQ at z; omega)
    obtain ⟨q0, q1, q2⟩ := hKq1.2.2 i hi'
    have hdc := hc _ (kg_mem hi')
    have htm : tms3 (kg Kd i) ≤ 60 := by
      unfold tms3
      unfold doC at hdc
      by_cases z : (kg Kd i).1 = 0
      · rw [if_pos z]; omega
      · rw [if_neg z]; omega
    have key : ∀ e1, tms3 (kg Kd i) < e1 → ∃ v dt2 rt2, L_Dg_doTo_4 κ (d + 1) A a x (nI i) dt1 = some (v, dt2) ∧ L_R_does_61 κ (fun (v42 : Nat) (v44 : Int32) (v45 : Int32) (v46 : Int32) (v47 : Int32) (s48 : AS) => L_R_does_11 κ e v42 v44 v45 v46 (v47 + 1) s48) e1 q (nI s) (nI t) x (nI i) (nI (60 * t + 5 * i)) (nI (tms3 (kg Kd i))) 0 rt1 = some (v, rt2) ∧ DI κ dt rt a q s (nI l) dt2 rt2 := fun e1 he1 => by
      rw [L_Dg_doTo_4, hKd1.1, if_neg (nI_ge hi' (by omega)), (kd_at hKd1 hi').1]
      rcases q_times hl6 ht hA hna ha hKd hKq hc hx hi' (fun (v16 : Nat) (v18 : Nat) (v20 : Int32) (v21 : Int32) (s22 : AS) => L_Dg_doTo_4 κ d v16 v18 v20 (v21 + 1) s22) (fun (v42 : Nat) (v44 : Int32) (v45 : Int32) (v46 : Int32) (v47 : Int32) (s48 : AS) => L_R_does_11 κ e v42 v44 v45 v46 (v47 + 1) s48) (tms3 (kg Kd i)) 0 FU e1 x dt1 rt1 (by omega) (FUn (by omega)) he1 hI with ⟨x', d2, r2, p1, p2, p3⟩ | ⟨v, d2, r2, p1, p2, p3⟩
      · obtain ⟨v, d3, r3, u1, u2, u3⟩ := ih (i + 1) d e x' d2 r2 (by omega) (by omega) (by omega) p3
        refine ⟨v, d3, r3, p1.trans ?_, p2.trans ?_, u3⟩
        · show L_Dg_doTo_4 κ d A a x' (nI i + 1) d2 = _
          rw [nI_1]; exact u1
        · show L_R_does_11 κ e q (nI s) (nI t) x' (nI i + 1) r2 = _
          rw [nI_1]; exact u2
      · exact ⟨v, d2, r2, p1, p2, p3⟩
    obtain ⟨v, d2, r2, p1, p2, p3⟩ := key FU (FUn (by omega))
    refine ⟨v, d2, r2, p1, ?_, p3⟩
    rw [L_R_does_11, grd_t (vp_in_nI (by omega) (by decide)), nI_clamp (by omega), hKq1.1, if_neg (nI_ge hi' (by omega)), ix60', grd_t (vp_in_nI (by omega) (by decide)), nI_clamp (by omega), q0]
    unfold tms3 at p2
    by_cases z : (kg Kd i).1 = 0
    · rw [if_pos z] at p2
      rw [z, if_pos (show nI 0 = 0 from rfl), nI_k _ 2 (y := 2) rfl, grd_t (vp_in_nI (by omega) (by decide)), nI_clamp (by omega), q2]
      exact p2
    · rw [if_neg z] at p2
      have : (kg Kd i).1 < 3 := by unfold doC at hdc; omega
      rw [if_neg (show ¬ nI (kg Kd i).1 = 0 from fun y => z ((nI_ltk (m := (kg Kd i).1) (k := 0) (y := 0) rfl (by omega) (by decide)).2.2.2.2.mp y))]
      exact p2
theorem q_does {k : Nat} (hk : k < 6) (hd : DOSR dt rt (DA κ k) q (6 + k)) (hI : SR κ dt a rt q s) (hU : UOK (rw_ rt q s)) (hx : LAWR dt rt (LA κ (rw_ rt q s 2).toNatClampNeg) q (rw_ rt q s 2).toNatClampNeg) (ha : a + 4 < kB (kt κ) + 70) :
    ∃ v dt' rt', f_Dg_doTo κ (DA κ k) a dt = some (v, dt') ∧ f_R_does κ q (nI k) (nI s) rt = some (v, rt') ∧ DI κ dt rt a q s (rw_ rt q s 2) dt' rt' := by
  obtain ⟨Kd, h1, h2, h3⟩ := hd
  obtain ⟨L, K, hX⟩ := hx.x
  have hl := hI.law
  obtain ⟨v, d2, r2, p1, p2, p3⟩ := q_outer (t := 6 + k) (s := s) (by omega) (by omega) (a := a) (A := DA κ k) (by unfold DA LA; omega) (fun z hz => by unfold DA LA; omega) (fun z hz => by unfold LA; omega) h1 h2 h3 hX Kd.length 0 FU FU 0 dt rt (by omega) (FUn (by have := h1.2.1; omega)) (FUn (by have := h1.2.1; omega)) ⟨hI, hU, hl.1, Same.rf _ _, Same.rf _ _⟩
  refine ⟨v, d2, r2, p1, ?_, by rw [← hl.1] at p3; exact p3⟩
  unfold f_R_does
  rw [show (6 : Int32) = nI 6 from rfl, nI_add]
  exact p2
end Does2
