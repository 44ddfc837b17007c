/-! sheets and texts by number, both classes -/
/-- a number below c, or none -/
theorem inR {c : Nat} (hc : c ≤ 6) (x : Int32) : (∃ i, i < c ∧ x = nI i ∧ ¬ wi x.toInt64 (0 : Int64) (nI c - 1).toInt64 = 0 ∧ ¬ (6 : Int32) ≤ x ∧ ¬ x < 0 ∧ ¬ nI c ≤ x) ∨ ((wi x.toInt64 (0 : Int64) (nI c - 1).toInt64 = 0) ∧ (x < 0 ∨ ¬ x < 0 ∧ nI c ≤ x)) := by
  have hw : ∀ y : Int32, wi x.toInt64 (0 : Int64) y.toInt64 = 0 ↔ ¬ ((0 : Int32) ≤ x ∧ x ≤ y) := fun y => wi_t (x := x) (lo := 0) (hi := y)
  by_cases h0 : x < 0
  · exact Or.inr ⟨(hw _).mpr (fun z => absurd h0 (Int32.not_lt.mpr z.1)), Or.inl h0⟩
  · obtain ⟨i, rfl, hi⟩ := i_nat (Int32.not_lt.mp h0)
    by_cases hic : i < c
    · left
      have e1 : nI c - 1 = nI (c - 1) := by rw [show c = (c - 1) + 1 by omega, nI_pred]; rfl
      refine ⟨i, hic, rfl, fun z => (hw _).mp z ⟨Int32.not_lt.mp h0, by rw [e1]; exact nI_le (by omega) (by omega)⟩, nI_ge (b := 6) (by omega) (by decide), h0, nI_ge hic (by omega)⟩
    · right
      have hle : nI c ≤ nI i := nI_le (by omega) hi
      refine ⟨(hw _).mpr (fun z => ?_), Or.inr ⟨h0, hle⟩⟩
      have h2 := z.2
      rw [i32le, nI_toInt hi] at h2
      by_cases hc0 : c = 0
      · rw [hc0, show (nI 0 - 1 : Int32).toInt = -1 from rfl] at h2
        omega
      · rw [show c = (c - 1) + 1 by omega, nI_pred, nI_toInt (by omega)] at h2
        omega
theorem wi0 {x : Int32} {c : Nat} (hc : c < 2 ^ 31) {b : Int64} (hb : b = (nI c).toInt64) (h : ¬ wi x.toInt64 (0 : Int64) b = 0) : ∃ p, p ≤ c ∧ x = nI p := by
  rw [hb] at h
  have := Decidable.not_not.mp (fun z => h ((wi_t (x := x) (lo := 0) (hi := nI c)).mpr z))
  obtain ⟨m, h1, h2⟩ := i_nat_le this.1 this.2 hc
  exact ⟨m, h2, h1⟩
theorem wi0' {x : Int32} {c : Nat} (hc : c < 2 ^ 31 - 1) (h : ¬ wi x.toInt64 (0 : Int64) (nI c - 1).toInt64 = 0) : ∃ p, p < c ∧ x = nI p := by
  by_cases h0 : c = 0
  · exfalso
    apply h
    rw [h0]
    refine (wi_t (x := x) (lo := 0) (hi := nI 0 - 1)).mpr (fun z => ?_)
    have h1 := z.1
    have h2 := z.2
    rw [i32le] at h1 h2
    rw [show (nI 0 - 1 : Int32).toInt = -1 from rfl] at h2
    rw [show (0 : Int32).toInt = 0 from rfl] at h1
    omega
  · rw [show c = (c - 1) + 1 by omega, nI_pred] at h
    obtain ⟨p, h1, h2⟩ := wi0 (c := c - 1) (by omega) rfl h
    exact ⟨p, by omega, h2⟩
theorem wi1 {x : Int32} {c : Nat} (hc : c < 2 ^ 31) {b : Int64} (hb : b = (nI c).toInt64) (h : ¬ wi x.toInt64 (1 : Int64) b = 0) : ∃ p, 1 ≤ p ∧ p ≤ c ∧ x = nI p := by
  rw [hb] at h
  have := Decidable.not_not.mp (fun z => h ((wi_t (x := x) (lo := 1) (hi := nI c)).mpr z))
  have h1 := this.1
  rw [i32le, show (1 : Int32).toInt = 1 from rfl] at h1
  obtain ⟨m, h2, h3⟩ := i_nat_le (show (0 : Int32) ≤ x by rw [i32le, show (0 : Int32).toInt = 0 from rfl]; omega) this.2 hc
  refine ⟨m, ?_, h3, h2⟩
  rw [h2, nI_toInt (by omega)] at h1
  omega
theorem ly_H {κ : Ko} {i : Nat} (hi : i < 6) : ly κ (HA κ i) = (8, 14) := by
  have hc : i = 0 ∨ i = 1 ∨ i = 2 ∨ i = 3 ∨ i = 4 ∨ i = 5 := by omega
  unfold HA
  rcases hc with rfl | rfl | rfl | rfl | rfl | rfl
  · exact ly_sh (i := 23) (by decide)
  · exact ly_sh (i := 28) (by decide)
  · exact ly_sh (i := 33) (by decide)
  · exact ly_sh (i := 38) (by decide)
  · exact ly_sh (i := 43) (by decide)
  · exact ly_sh (i := 48) (by decide)
section Get
variable {κ : Ko} {C : Nat → Nat} {n m : Nat} {T : Nat → Nat} {dt rt : AS}
theorem GRc.m6 (h : GRc κ C n T m dt rt) : m ≤ 6 := h.1.2.2.2.2.1
theorem GRc.sr (h : GRc κ C n T m dt rt) {i : Nat} (hi : i < m) : SR κ dt (HA κ i) rt (QQ κ) i := ⟨(h.2 i hi).1, (h.2 i hi).2.1, by have := h.m6; omega⟩
theorem GRc.pl (h : GRc κ C n T m dt rt) (x : Int32) : (∃ i, i < m ∧ x = nI i ∧ f_Pl_get κ (kB (kt κ) + 21) x dt = some (some (HA κ i)) ∧ f_R_isSheet κ (QQ κ) x rt = 1) ∨ (f_Pl_get κ (kB (kt κ) + 21) x dt = some none ∧ f_R_isSheet κ (QQ κ) x rt = 0) := by
  have hm := h.m6
  have e1 := h.1.2.2.2.2.2.1
  have e2 := h.1.2.2.2.2.2.2.1
  unfold f_Pl_get f_R_isSheet
  simp only [jn_e]
  rw [e1, e2]
  rcases inR hm x with ⟨i, hi, rfl, a1, a2, a3, a4⟩ | ⟨a1, a2⟩
  · left
    refine ⟨i, hi, rfl, ?_, ?_⟩
    · rw [if_neg a1, if_neg a2, grd_t (vp_in_nI (by omega) (by decide)), nI_clamp (by omega), show kB (kt κ) + 21 + 1 = kB (kt κ) + 22 by omega, h.1.2.2.2.1.1 i (by omega), bnd_t, grd_t (ly_H (by omega))]
    · rw [if_neg a3, if_neg a4]
  · right
    rw [if_pos a1]
    refine ⟨rfl, ?_⟩
    rcases a2 with a2 | ⟨a2, a3⟩
    · rw [if_pos a2]
    · rw [if_neg a2, if_pos a3]
/-- texts by number -/
theorem GRc.cnt (h : GRc κ C n T m dt rt) {s : Nat} (hs : s < 4) : C s ≤ 6 ∧ gat (gi dt (kB (kt κ) + 7)) 4 (nI s) = nI (C s) ∧ gi rt (QQ κ + 2) s = nI (C s) := by
  obtain ⟨h1, h2, h3⟩ := h.1.2.1.1 s hs
  exact ⟨h1, by rw [gat_n (j := s) rfl hs (by decide)]; exact h2, h3⟩
theorem isText_n {s : Nat} (hs : s < 4) {c : Nat} (e : gi rt (QQ κ + 2) s = nI c) (x : Int32) {y : Int32} (hy : y = nI s) : f_R_isText κ (QQ κ) y x rt = some (if x < 0 then 0 else if nI c ≤ x then 0 else 1) := by
  unfold f_R_isText
  rw [jn_e, hy, grd_t (vp_in_nI hs (by decide)), nI_clamp (by omega), e]
  by_cases h0 : x < 0
  · rw [if_pos h0, if_pos h0]
  · rw [if_neg h0, if_neg h0]
    by_cases h1 : nI c ≤ x
    · rw [if_pos h1, if_pos h1]
    · rw [if_neg h1, if_neg h1]
theorem GRc.lawAt (h : GRc κ C n T m dt rt) (x : Int32) : (∃ i, i < C 0 ∧ x = nI i ∧ f_X_lawAt κ (kB (kt κ)) x dt = some (some (LA κ i)) ∧ f_R_isText κ (QQ κ) 0 x rt = some 1) ∨ (f_X_lawAt κ (kB (kt κ)) x dt = some none ∧ f_R_isText κ (QQ κ) 0 x rt = some 0) := by
  obtain ⟨c6, e1, e2⟩ := h.cnt (s := 0) (by decide)
  rw [isText_n (s := 0) (y := 0) (by decide) e2 x rfl]
  unfold f_X_lawAt
  simp only [jn_e]
  rw [show (0 : Int32) = nI 0 from rfl, e1, show nI 0 = (0 : Int32) from rfl]
  rcases inR c6 x with ⟨i, hi, rfl, a1, a2, a3, a4⟩ | ⟨a1, a2⟩
  · left
    obtain ⟨⟨k1, k2, k3, k4⟩, y1, y2, y3, y4, y5, y6⟩ := h.1.1 i (by omega)
    refine ⟨i, hi, rfl, ?_, ?_⟩
    · rw [if_neg a1, if_neg a2, grd_t (vp_in_nI (by omega) (by decide)), nI_clamp (by omega), k1, bnd_t, grd_t y1]
    · rw [if_neg a3, if_neg a4]
  · right
    rw [if_pos a1]
    refine ⟨rfl, ?_⟩
    rcases a2 with a2 | ⟨a2, a3⟩
    · rw [if_pos a2]
    · rw [if_neg a2, if_pos a3]
theorem GRc.doingAt (h : GRc κ C n T m dt rt) (x : Int32) : (∃ i, i < C 1 ∧ x = nI i ∧ f_X_doingAt κ (kB (kt κ)) x dt = some (some (DA κ i)) ∧ ly κ (DA κ i) = (2, 5) ∧ f_R_isText κ (QQ κ) 1 x rt = some 1) ∨ (f_X_doingAt κ (kB (kt κ)) x dt = some none ∧ f_R_isText κ (QQ κ) 1 x rt = some 0) := by
  obtain ⟨c6, e1, e2⟩ := h.cnt (s := 1) (by decide)
  rw [isText_n (s := 1) (y := 1) (by decide) e2 x rfl]
  unfold f_X_doingAt
  simp only [jn_e]
  have e1' : gat (gi dt (kB (kt κ) + 7)) 4 (1 : Int32) = nI (C 1) := e1
  rw [e1']
  rcases inR c6 x with ⟨i, hi, rfl, a1, a2, a3, a4⟩ | ⟨a1, a2⟩
  · left
    obtain ⟨⟨k1, k2, k3, k4⟩, y1, y2, y3, y4, y5, y6⟩ := h.1.1 i (by omega)
    refine ⟨i, hi, rfl, ?_, y3, ?_⟩
    · rw [if_neg a1, if_neg a2, grd_t (vp_in_nI (by omega) (by decide)), nI_clamp (by omega), k2, bnd_t, grd_t y3]
    · rw [if_neg a3, if_neg a4]
  · right
    rw [if_pos a1]
    refine ⟨rfl, ?_⟩
    rcases a2 with a2 | ⟨a2, a3⟩
    · rw [if_pos a2]
    · rw [if_neg a2, if_pos a3]
theorem GRc.ruleAt (h : GRc κ C n T m dt rt) (x : Int32) : (∃ i, i < C 2 ∧ x = nI i ∧ f_X_ruleAt κ (kB (kt κ)) x dt = some (some (RA κ i)) ∧ ly κ (RA κ i) = (7, 5) ∧ f_R_isText κ (QQ κ) 2 x rt = some 1) ∨ (f_X_ruleAt κ (kB (kt κ)) x dt = some none ∧ f_R_isText κ (QQ κ) 2 x rt = some 0) := by
  obtain ⟨c6, e1, e2⟩ := h.cnt (s := 2) (by decide)
  rw [isText_n (s := 2) (y := 2) (by decide) e2 x rfl]
  unfold f_X_ruleAt
  simp only [jn_e]
  have e1' : gat (gi dt (kB (kt κ) + 7)) 4 (2 : Int32) = nI (C 2) := e1
  rw [e1']
  rcases inR c6 x with ⟨i, hi, rfl, a1, a2, a3, a4⟩ | ⟨a1, a2⟩
  · left
    obtain ⟨⟨k1, k2, k3, k4⟩, y1, y2, y3, y4, y5, y6⟩ := h.1.1 i (by omega)
    refine ⟨i, hi, rfl, ?_, y4, ?_⟩
    · rw [if_neg a1, if_neg a2, grd_t (vp_in_nI (by omega) (by decide)), nI_clamp (by omega), k3, bnd_t, grd_t y4]
    · rw [if_neg a3, if_neg a4]
  · right
    rw [if_pos a1]
    refine ⟨rfl, ?_⟩
    rcases a2 with a2 | ⟨a2, a3⟩
    · rw [if_pos a2]
    · rw [if_neg a2, if_pos a3]
theorem GRc.stripAt (h : GRc κ C n T m dt rt) (x : Int32) : (∃ i, i < C 3 ∧ x = nI i ∧ f_X_stripAt κ (kB (kt κ)) x dt = some (some (SA κ i)) ∧ ly κ (SA κ i) = (10, 7) ∧ f_R_isText κ (QQ κ) 3 x rt = some 1) ∨ (f_X_stripAt κ (kB (kt κ)) x dt = some none ∧ f_R_isText κ (QQ κ) 3 x rt = some 0) := by
  obtain ⟨c6, e1, e2⟩ := h.cnt (s := 3) (by decide)
  rw [isText_n (s := 3) (y := 3) (by decide) e2 x rfl]
  unfold f_X_stripAt
  simp only [jn_e]
  have e1' : gat (gi dt (kB (kt κ) + 7)) 4 (3 : Int32) = nI (C 3) := e1
  rw [e1']
  rcases inR c6 x with ⟨i, hi, rfl, a1, a2, a3, a4⟩ | ⟨a1, a2⟩
  · left
    obtain ⟨⟨k1, k2, k3, k4⟩, y1, y2, y3, y4, y5, y6⟩ := h.1.1 i (by omega)
    refine ⟨i, hi, rfl, ?_, y6, ?_⟩
    · rw [if_neg a1, if_neg a2, grd_t (vp_in_nI (by omega) (by decide)), nI_clamp (by omega), k4, bnd_t, grd_t y6]
    · rw [if_neg a3, if_neg a4]
  · right
    rw [if_pos a1]
    refine ⟨rfl, ?_⟩
    rcases a2 with a2 | ⟨a2, a3⟩
    · rw [if_pos a2]
    · rw [if_neg a2, if_pos a3]
theorem GRc.law (h : GRc κ C n T m dt rt) {i : Nat} (hi : i < m) : LAWR dt rt (LA κ (rw_ rt (QQ κ) i 2).toNatClampNeg) (QQ κ) (rw_ rt (QQ κ) i 2).toNatClampNeg := h.1.2.1.2.1 _ (h.2 i hi).2.2.2.2
theorem LAWR.sof {l : Nat} (h : LAWR dt rt (LA κ l) (QQ κ) l) : gi rt (QQ κ + 7) l = gi dt (LA κ l) 6 := by
  obtain ⟨sv, L, K, -, -, -, -, -, h6, h7, -⟩ := h
  rw [h6, h7]
end Get
