/-! what a told law tells: the reference -/
section That
variable {κ : Ko} {L : List (Nat × Nat)} {K : List c4} {w : Nat → Int64} {q t : Nat}
theorem ix60 {t i d : Nat} {x : Int32} (hx : x = nI d) : (60 : Int32) * nI t + (5 : Int32) * nI i + x = nI (60 * t + 5 * i + d) := by
  rw [hx, show (60 : Int32) = nI 60 from rfl, show (5 : Int32) = nI 5 from rfl, nI_mul, nI_mul, nI_add, nI_add]
theorem ix60' {t i : Nat} : (60 : Int32) * nI t + (5 : Int32) * nI i = nI (60 * t + 5 * i) := by
  rw [show (60 : Int32) = nI 60 from rfl, show (5 : Int32) = nI 5 from rfl, nI_mul, nI_mul, nI_add]
theorem rk_w {rs rs' : AS} (h : Same (rkW q) rs rs') (hw : ∀ v, v < 8 → gl rs (q + 13) v = w v) : ∀ v, v < 8 → gl rs' (q + 13) v = w v := fun v hv => by
  rw [(h _ _ (fun z => by unfold rkW at z; omega)).2.1]; exact hw v hv
theorem r_isHolding {rs : AS} {i : Nat} {c : c4} (hc : kg K i = c) (ht : t < 18) (hQ : LWQ rs q t L K) (hk : typd L) (hw : ∀ v, v < 8 → gl rs (q + 13) v = w v) (hi : i < K.length) (hb : c.2.2.1 ≤ L.length ∧ c.2.2.2 ≤ L.length)
    (hT : ∃ X Y, L = X ++ sg L c.2.2.1 c.2.2.2 ++ Y ∧ c.2.2.1 = X.length ∧ c.2.2.2 = X.length + (sg L c.2.2.1 c.2.2.2).length ∧ (c.2.2.2 = c.2.2.1 ∨ evl w (sg L c.2.2.1 c.2.2.2) [] = some [evv w (sg L c.2.2.1 c.2.2.2)] ∧ (evv w (sg L c.2.2.1 c.2.2.2) = 0 ∨ evv w (sg L c.2.2.1 c.2.2.2) = 1))) :
    ∃ rs', f_R_isHolding κ q (nI t) (nI i) rs = some ((if hol w L c = true then 1 else 0), rs') ∧ Same (rkW q) rs rs' := by
  subst hc
  have h12 := hQ.2.2.1
  have h400 := hQ.1.2.1
  obtain ⟨g0, g1, g2, g3, g4⟩ := hQ.2.2.2 i hi
  unfold f_R_isHolding
  simp only [jn_e]
  rw [ix60 (x := 3) (d := 3) rfl, ix60 (x := 4) (d := 4) rfl, grd_t (vp_in_nI (show 60 * t + 5 * i + 3 < 1080 by omega) (by decide)), grd_t (vp_in_nI (show 60 * t + 5 * i + 3 < 1080 by omega) (by decide)), grd_t (vp_in_nI (show 60 * t + 5 * i + 4 < 1080 by omega) (by decide)), nI_clamp (show 60 * t + 5 * i + 3 < 2 ^ 31 by omega), nI_clamp (show 60 * t + 5 * i + 4 < 2 ^ 31 by omega), g3, g4]
  by_cases h2 : (kg K i).2.2.2 = (kg K i).2.2.1
  · have hh : hol w L (kg K i) = true := by unfold hol; rw [decide_eq_true h2]; rfl
    rw [if_pos h2, if_pos (show (-1 : Int32) < 0 by decide), if_pos hh]
    exact ⟨rs, rfl, Same.rf _ _⟩
  · have hneg : ¬ nI (kg K i).2.2.1 < 0 := fun z => by
      have := (nI_ltk (m := (kg K i).2.2.1) (k := 0) (y := 0) rfl (by omega) (by decide)).1.mp z
      omega
    rw [if_neg h2, if_neg hneg]
    obtain ⟨X, Y, hL, e1, e2, e3⟩ := hT
    rcases e3 with e3 | ⟨e3, e4⟩
    · exact absurd e3 h2
    · obtain ⟨s2, r1, r2⟩ := r_reg (κ := κ) ht hQ.1 hk hL hw e3
      rw [← e2, ← e1] at r1
      rw [r1, bnd2_t]
      rcases e4 with e4 | e4
      · have hh : ¬ hol w L (kg K i) = true := by unfold hol; rw [decide_eq_false h2, decide_eq_true e4]; decide
        rw [e4, if_neg (show ¬ (0 : Int64) = 1 by decide), if_neg hh]
        exact ⟨s2, rfl, r2⟩
      · have hh : hol w L (kg K i) = true := by unfold hol; rw [decide_eq_false h2, decide_eq_false (show ¬ evv w (sg L (kg K i).2.2.1 (kg K i).2.2.2) = 0 by rw [e4]; decide)]; rfl
        rw [e4, if_pos rfl, if_pos hh]
        exact ⟨s2, rfl, r2⟩
theorem r_thatL {so : Nat} (hso : so < 2) (ht : t < 18) (hk : typd L) (hl : ∀ c, c ∈ K → lawC L c) : ∀ n i d rs, i + n = K.length → n < d → LWQ rs q t L K → (∀ v, v < 8 → gl rs (q + 13) v = w v) → ∃ rs', L_R_clauseThat_2 κ d q (nI t) (nI so) (nI i) rs = some ((match thI w L so K n i with | none => -1 | some j => nI j), rs') ∧ Same (rkW q) rs rs' := by
  intro n
  induction n with
  | zero =>
    intro i d rs hi hd hQ hw
    obtain ⟨d, rfl⟩ : ∃ e, d = e + 1 := ⟨d - 1, by omega⟩
    have h12 := hQ.2.2.1
    rw [L_R_clauseThat_2, grd_t (vp_in_nI ht (by decide)), nI_clamp (show t < 2 ^ 31 by omega), hQ.2.1, if_pos (nI_le (by omega) (by omega))]
    exact ⟨rs, rfl, Same.rf _ _⟩
  | succ n ih =>
    intro i d rs hi hd hQ hw
    obtain ⟨d, rfl⟩ : ∃ e, d = e + 1 := ⟨d - 1, by omega⟩
    have h12 := hQ.2.2.1
    have hlc := hl _ (kg_mem (i := i) (by omega))
    have hle := hlc.le
    obtain ⟨g0, -⟩ := hQ.2.2.2 i (by omega)
    rw [L_R_clauseThat_2, grd_t (vp_in_nI ht (by decide)), nI_clamp (show t < 2 ^ 31 by omega), hQ.2.1, if_neg (nI_ge (by omega) (by omega)), ix60', thI]
    simp only [jn_e, nI_1]
    rw [grd_t (vp_in_nI (show 60 * t + 5 * i < 1080 by omega) (by decide)), nI_clamp (show 60 * t + 5 * i < 2 ^ 31 by omega), g0]
    by_cases h1 : (kg K i).1 = so
    · rw [if_pos (show nI (kg K i).1 = nI so by rw [h1]), if_pos h1]
      obtain ⟨s2, y1, y2⟩ := r_isHolding (κ := κ) (c := kg K i) rfl ht hQ hk hw (by omega) ⟨hle.2.1, hle.2.2.1⟩ (hlc.test w)
      rw [y1, bnd2_t]
      by_cases hh : hol w L (kg K i) = true
      · rw [if_pos hh, if_pos hh, if_neg (show ¬ (1 : Int32) = 0 by decide)]
        exact ⟨s2, rfl, y2⟩
      · rw [if_neg hh, if_neg hh, if_pos (show (0 : Int32) = 0 from rfl)]
        obtain ⟨rs', z1, z2⟩ := ih (i + 1) d s2 (by omega) (by omega) (hQ.of y2) (rk_w y2 hw)
        exact ⟨rs', z1, y2.tr z2⟩
    · rw [if_neg (show ¬ nI (kg K i).1 = nI so from fun z => h1 ((nI_eq (by omega) (by omega)).mp z)), if_neg h1]
      exact ih (i + 1) d rs (by omega) (by omega) hQ hw
theorem r_that {rs : AS} {so : Nat} (hso : so < 2) (ht : t < 18) (hk : typd L) (hl : ∀ c, c ∈ K → lawC L c) (hQ : LWQ rs q t L K) (hw : ∀ v, v < 8 → gl rs (q + 13) v = w v) : ∃ rs', f_R_clauseThat κ q (nI t) (nI so) rs = some ((match thI w L so K K.length 0 with | none => -1 | some j => nI j), rs') ∧ Same (rkW q) rs rs' :=
  r_thatL hso ht hk hl K.length 0 FU rs (Nat.zero_add _) (by have := hQ.2.2.1; exact FUn (by omega)) hQ hw
theorem r_summed {rs : AS} {i : Nat} (ht : t < 18) (hk : typd L) (hl : ∀ c, c ∈ K → lawC L c) (hQ : LWQ rs q t L K) (hw : ∀ v, v < 8 → gl rs (q + 13) v = w v) (hi : i < K.length) : ∃ rs', f_R_summed κ q (nI t) (nI i) rs = some (smv w L (kg K i), rs') ∧ Same (rkW q) rs rs' := by
  have h12 := hQ.2.2.1
  obtain ⟨X, Y, hL, e1, e2, e3⟩ := (hl _ (kg_mem hi)).sum w
  obtain ⟨g0, g1, g2, g3, g4⟩ := hQ.2.2.2 i hi
  obtain ⟨s2, r1, r2⟩ := r_reg (κ := κ) ht hQ.1 hk hL hw e3
  rw [← e2, ← e1] at r1
  unfold f_R_summed
  rw [ix60 (x := 1) (d := 1) rfl, ix60 (x := 2) (d := 2) rfl, grd_t (vp_in_nI (show 60 * t + 5 * i + 1 < 1080 by omega) (by decide)), grd_t (vp_in_nI (show 60 * t + 5 * i + 2 < 1080 by omega) (by decide)), nI_clamp (show 60 * t + 5 * i + 1 < 2 ^ 31 by omega), nI_clamp (show 60 * t + 5 * i + 2 < 2 ^ 31 by omega), g1, g2, r1, bnd2_t]
  exact ⟨s2, rfl, r2⟩
/-- how likely a facet breaks -/
noncomputable def brk (w : Nat → Int64) (L : List (Nat × Nat)) (K : List c4) : Int32 := match thI w L 0 K K.length 0 with | none => 0 | some j => (lbnd (smv w L (kg K j)) 0 1000).toInt32
theorem r_breaks {rs : AS} (ht : t < 18) (hk : typd L) (hl : ∀ c, c ∈ K → lawC L c) (hQ : LWQ rs q t L K) (hw : ∀ v, v < 8 → gl rs (q + 13) v = w v) : ∃ rs', f_R_breaks κ q (nI t) rs = some (brk w L K, rs') ∧ Same (rkW q) rs rs' := by
  have h12 := hQ.2.2.1
  obtain ⟨s1, y1, y2⟩ := r_that (κ := κ) (so := 0) (by decide) ht hk hl hQ hw
  unfold f_R_breaks brk
  rw [show (0 : Int32) = nI 0 from rfl, y1, bnd2_t]
  cases hth : thI w L 0 K K.length 0 with
  | none =>
    exact ⟨s1, by rw [if_neg (show ¬ nI 0 ≤ -1 by decide)], y2⟩
  | some j =>
    have hj := thI_lt _ _ _ hth
    obtain ⟨s2, z1, z2⟩ := r_summed (κ := κ) (i := j) ht hk hl (hQ.of y2) (rk_w y2 hw) (by omega)
    exact ⟨s2, by rw [if_pos (show nI 0 ≤ nI j from nI_le (Nat.zero_le _) (by omega)), z1, bnd2_t], y2.tr z2⟩
theorem d_breaks {ds : AS} {a1 a3 : Nat} (hD : LWD ds a1 L K) (hk : typd L) (hl : ∀ c, c ∈ K → lawC L c) (ha : a3 ≠ a1 + 1 + 3) (hw : ∀ v, v < 8 → gl ds a3 v = w v) : ∃ ds', f_Lw_tells κ a1 0 a3 8 0 1000 0 ds = some (brk w L K, ds') ∧ Same (fun p _ => p = a1 + 1 + 3) ds ds' := by
  obtain ⟨ds', y1, y2⟩ := d_tells (κ := κ) (so := 0) (by decide) hD hk hl ha hw 0 1000 0
  refine ⟨ds', ?_, y2⟩
  unfold brk
  rw [show f_Lw_tells κ a1 0 a3 8 0 1000 0 ds = _ from y1]
  cases thI w L 0 K K.length 0 with
  | none => rfl
  | some j =>
    unfold tvD
    show some ((lmax 0 (lmin 1000 _)).toInt32, ds') = _
    rw [lbnd_eq (by decide)]
end That
