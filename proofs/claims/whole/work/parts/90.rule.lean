/-! what a rule sees: both classes -/
theorem ruleC.test {L : List (Nat × Nat)} {c : c4} (h : ruleC L c) (w : Nat → Int64) : ∃ X Y, L = X ++ sg L c.2.2.1 c.2.2.2 ++ Y ∧ c.2.1 = X.length ∧ c.2.2.1 = X.length ∧ c.2.2.2 = X.length + (sg L c.2.2.1 c.2.2.2).length ∧ c.2.2.2 ≠ c.2.2.1 ∧ c.1 < 2 ∧ evl w (sg L c.2.2.1 c.2.2.2) [] = some [evv w (sg L c.2.2.1 c.2.2.2)] ∧ (evv w (sg L c.2.2.1 c.2.2.2) = 0 ∨ evv w (sg L c.2.2.1 c.2.2.2) = 1) := by
  obtain ⟨X, S, Y, hL, h1, h2, h3, h4, h5⟩ := h
  have e : sg L c.2.2.1 c.2.2.2 = S := by rw [h2, h3, hL, sg_mid]
  have hne := h5.ne
  rw [e]
  exact ⟨X, Y, hL, h1, h2, h3, by omega, h4, h5.ev w⟩
noncomputable def ruV (w : Nat → Int64) (L : List (Nat × Nat)) (K : List c4) : Nat → Nat → Int32 → Int32 → Int32
  | 0, _, b, h => if h = 0 then (if b = 0 then 1 else 0) else 1
  | n + 1, i, b, h => if (kg K i).1 = 0 then (if h = 0 then (if hol w L (kg K i) = true then ruV w L K n (i + 1) 1 1 else ruV w L K n (i + 1) 1 0) else ruV w L K n (i + 1) 1 1) else if hol w L (kg K i) = true then 0 else ruV w L K n (i + 1) b h
def ruE (b h m : Int32) : Int32 := if m = 0 then (if h = 0 then (if b = 0 then 1 else 0) else 1) else 0
noncomputable def ruK : Int32 → Int32 → AS → Option (Int32 × AS) := fun v13 v14 s15 => jn (some ((1 : Int32), s15)) fun j16 => if v14 = 0 then if v13 = 0 then j16 else some ((0 : Int32), s15) else j16
theorem ru_e (κ : Ko) (a0 a1 n1 : Nat) (st : AS) : f_Ru_sees κ a0 a1 n1 st = L_Ru_sees_7 κ ruK FU a0 a1 n1 (0 : Int32) (0 : Int32) (0 : Int32) st := rfl
theorem hol_r {w : Nat → Int64} {L : List (Nat × Nat)} {c : c4} (h : c.2.2.2 ≠ c.2.2.1) : (hol w L c = true ↔ ¬ evv w (sg L c.2.2.1 c.2.2.2) = 0) := by
  unfold hol
  rw [decide_eq_false h]
  by_cases z : evv w (sg L c.2.2.1 c.2.2.2) = 0
  · rw [decide_eq_true z]; exact ⟨fun y => absurd y (by decide), fun y => absurd z y⟩
  · rw [decide_eq_false z]; exact ⟨fun _ => z, fun _ => rfl⟩
section Rule
variable {κ : Ko} {q t A a3 : Nat} {L : List (Nat × Nat)} {K : List c4} {w : Nat → Int64}
def RUD (ds : AS) (a1 : Nat) (L : List (Nat × Nat)) (K : List c4) : Prop := CDL ds (a1 + 1) L ∧ KDu ds a1 K
theorem RUD.st {ds ds' : AS} (h : RUD ds A L K) (hw : Same (fun p _ => p = A + 1 + 3) ds ds') : RUD ds' A L K :=
  ⟨h.1.of hw (by omega) (fun _ => by omega) (fun _ => by omega), ⟨by rw [(hw A 4 (by omega)).1]; exact h.2.1, h.2.2.1, fun k hk => by
    rw [(hw (A + 5) k (by omega)).1, (hw (A + 6) k (by omega)).1, (hw (A + 7) k (by omega)).1]
    exact h.2.2.2 k hk⟩⟩
theorem d_ruL (hk : typd L) (hl : ∀ c, c ∈ K → ruleC L c) (ha : a3 ≠ A + 1 + 3) : ∀ n i d b h ds, i + n = K.length → n < d → RUD ds A L K → (∀ v, v < 8 → gl ds a3 v = w v) →
    ∃ ds', L_Ru_sees_7 κ ruK d A a3 8 b h (nI i) ds = some (ruV w L K n i b h, ds') ∧ Same (fun p _ => p = A + 1 + 3) ds ds'
  | 0, i, d, b, h, ds, hi, hd, hD, hw => by
    obtain ⟨d, rfl⟩ : ∃ z, d = z + 1 := ⟨d - 1, by omega⟩
    have := hD.2.2.1
    rw [L_Ru_sees_7, hD.2.1, if_pos (nI_le (by omega) (by omega)), ruV]
    unfold ruK
    rw [jn_e]
    refine ⟨ds, ?_, Same.rf _ _⟩
    by_cases h1 : h = 0
    · rw [if_pos h1, if_pos h1]
      by_cases h2 : b = 0
      · rw [if_pos h2, if_pos h2]
      · rw [if_neg h2, if_neg h2]
    · rw [if_neg h1, if_neg h1]
  | n + 1, i, d, b, h, ds, hi, hd, hD, hw => by
    obtain ⟨d, rfl⟩ : ∃ z, d = z + 1 := ⟨d - 1, by omega⟩
    have h12 := hD.2.2.1
    have hi' : i < K.length := by omega
    obtain ⟨k5, k6, k7⟩ := hD.2.2.2 i hi'
    obtain ⟨X, Y, hL, e0, e1, e2, e3, e4, e5, e6⟩ := (hl _ (kg_mem hi')).test w
    obtain ⟨s2, r1, r2⟩ := d_reg (κ := κ) hD.1 hk hL ha hw e5
    have hD2 := hD.st r2
    have hw2 : ∀ v, v < 8 → gl s2 a3 v = w v := fun v hv => by rw [(r2 a3 v ha).2.1]; exact hw v hv
    obtain ⟨k5', -, -⟩ := hD2.2.2.2 i hi'
    rw [← e2, ← e0] at r1
    have key : ∀ b' h', ∃ ds', L_Ru_sees_7 κ ruK d A a3 8 b' h' (nI (i + 1)) s2 = some (ruV w L K n (i + 1) b' h', ds') ∧ Same (fun p _ => p = A + 1 + 3) ds ds' := fun b' h' => by
      obtain ⟨d4, z1, z2⟩ := d_ruL hk hl ha n (i + 1) d b' h' s2 (by omega) (by omega) hD2 hw2
      exact ⟨d4, z1, r2.tr z2⟩
    rw [L_Ru_sees_7, hD.2.1, if_neg (nI_ge hi' (by omega)), gat_n (j := i) rfl (by omega) (by decide), gat_n (j := i) rfl (by omega) (by decide), k6, k7, r1, bnd2_t, gat_n (j := i) rfl (by omega) (by decide), k5', jn_e, nI_1, ruV]
    have hh := hol_r (w := w) (L := L) e3
    by_cases c0 : (kg K i).1 = 0
    · rw [if_pos c0, c0, if_pos (show nI 0 = 0 from rfl)]
      by_cases hz : h = 0
      · rw [if_pos hz, if_pos hz]
        by_cases v0 : evv w (sg L (kg K i).2.2.1 (kg K i).2.2.2) = 0
        · rw [if_pos v0, if_pos rfl, if_neg (fun z => hh.mp z v0)]
          exact key 1 0
        · rw [if_neg v0, if_neg (show ¬ (1 : Int32) = 0 by decide), if_pos (hh.mpr v0)]
          exact key 1 1
      · rw [if_neg hz, if_neg hz]
        exact key 1 1
    · rw [if_neg c0, if_neg (show ¬ nI (kg K i).1 = 0 from fun y => c0 ((nI_ltk (m := (kg K i).1) (k := 0) (y := 0) rfl (by omega) (by decide)).2.2.2.2.mp y))]
      by_cases v0 : evv w (sg L (kg K i).2.2.1 (kg K i).2.2.2) = 0
      · rw [if_pos v0, if_pos rfl, if_neg (fun z => hh.mp z v0)]
        exact key b h
      · rw [if_neg v0, if_neg (show ¬ (1 : Int32) = 0 by decide), if_pos (hh.mpr v0)]
        exact ⟨s2, rfl, r2⟩
theorem d_ru {ds : AS} (hD : RUD ds A L K) (hk : typd L) (hl : ∀ c, c ∈ K → ruleC L c) (ha : a3 ≠ A + 1 + 3) (hw : ∀ v, v < 8 → gl ds a3 v = w v) : ∃ ds', f_Ru_sees κ A a3 8 ds = some (ruV w L K K.length 0 0 0, ds') ∧ Same (fun p _ => p = A + 1 + 3) ds ds' := by
  rw [ru_e]
  exact d_ruL hk hl ha K.length 0 FU 0 0 ds (by omega) (FUn (by have := hD.2.2.1; omega)) hD hw
theorem r_ruL (ht : t < 18) (hk : typd L) (hl : ∀ c, c ∈ K → ruleC L c) (k : Nat → Int32 → Int32 → Int32 → Int32 → Int32 → Int32 → AS → Option AS) (x2 x4 : Int32) : ∀ n i e x5 x6 x7 rs, i + n = K.length → n < e → LWQ rs q t L K → (∀ v, v < 8 → gl rs (q + 13) v = w v) → (x5 = 0 ∨ x5 = 1) → (x6 = 0 ∨ x6 = 1) → (x7 = 0 ∨ x7 = 1) →
    ∃ rs' y5 y6 y7, L_R_sees_177 κ k e q x2 (nI t) x4 x5 x6 x7 (nI i) rs = k q x2 (nI t) x4 y5 y6 y7 rs' ∧ ruE y5 y6 y7 = (if x7 = 0 then ruV w L K n i x5 x6 else 0) ∧ Same (rkW q) rs rs'
  | 0, i, e, x5, x6, x7, rs, hi, he, hQ, hw, _, _, _ => by
    obtain ⟨e, rfl⟩ : ∃ z, e = z + 1 := ⟨e - 1, by omega⟩
    have := hQ.2.2.1
    rw [L_R_sees_177, grd_t (vp_in_nI (by omega) (by decide)), nI_clamp (by omega), hQ.2.1, if_pos (nI_le (by omega) (by omega)), ruV]
    exact ⟨rs, x5, x6, x7, rfl, rfl, Same.rf _ _⟩
  | n + 1, i, e, x5, x6, x7, rs, hi, he, hQ, hw, h5, h6, h7 => by
    obtain ⟨e, rfl⟩ : ∃ z, e = z + 1 := ⟨e - 1, by omega⟩
    have h12 := hQ.2.2.1
    have hi' : i < K.length := by omega
    obtain ⟨X, Y, hL, e0, e1, e2, e3, e4, e5, e6⟩ := (hl _ (kg_mem hi')).test w
    have hlen : X.length + (sg L (kg K i).2.2.1 (kg K i).2.2.2).length ≤ L.length := by
      have := congrArg List.length hL
      simp only [List.length_append] at this
      omega
    obtain ⟨s2, r1, r2⟩ := r_isHolding (κ := κ) rfl ht hQ hk hw hi' ⟨by omega, by omega⟩ ⟨X, Y, hL, e1, e2, Or.inr ⟨e5, e6⟩⟩
    have hQ2 : LWQ s2 q t L K := hQ.fr r2 (fun p j z y => by unfold tgQ at z; unfold rkW at y; omega)
    have hw2 := rk_w r2 hw
    obtain ⟨q0, -⟩ := hQ2.2.2.2 i hi'
    have key : ∀ y5 y6 y7, (y5 = 0 ∨ y5 = 1) → (y6 = 0 ∨ y6 = 1) → (y7 = 0 ∨ y7 = 1) → ∀ v, (if y7 = 0 then ruV w L K n (i + 1) y5 y6 else 0) = v → ∃ rs' z5 z6 z7, L_R_sees_177 κ k e q x2 (nI t) x4 y5 y6 y7 (nI (i + 1)) s2 = k q x2 (nI t) x4 z5 z6 z7 rs' ∧ ruE z5 z6 z7 = v ∧ Same (rkW q) rs rs' := fun y5 y6 y7 g5 g6 g7 v hv => by
      obtain ⟨d4, z5, z6, z7, z1, z2, z3⟩ := r_ruL ht hk hl k x2 x4 n (i + 1) e y5 y6 y7 s2 (by omega) (by omega) hQ2 hw2 g5 g6 g7
      exact ⟨d4, z5, z6, z7, z1, z2.trans hv, r2.tr z3⟩
    rw [L_R_sees_177, grd_t (vp_in_nI (by omega) (by decide)), nI_clamp (by omega), hQ.2.1, if_neg (nI_ge hi' (by omega)), r1, bnd2_t]
    have o0 : (0 : Int32) ||| 0 = 0 := by decide
    have o1 : (0 : Int32) ||| 1 = 1 := by decide
    have o2 : (1 : Int32) ||| 0 = 1 := by decide
    have o3 : (1 : Int32) ||| 1 = 1 := by decide
    have z01 : ((1 : Int32) = 0) = False := eq_false (by decide)
    have z00 : ((0 : Int32) = 0) = True := eq_true rfl
    simp only [jn_e, z01, z00, if_true, if_false]
    rw [ix60', grd_t (vp_in_nI (by omega) (by decide)), nI_clamp (by omega), q0, nI_1, ruV]
    by_cases c0 : (kg K i).1 = 0
    · rw [if_pos c0, c0, if_neg (show ¬ nI 0 = 1 by decide)]
      by_cases hh : hol w L (kg K i) = true
      · simp only [if_pos hh, z01, if_false]
        rcases h5 with rfl | rfl <;> rcases h6 with rfl | rfl <;> rcases h7 with rfl | rfl <;> simp only [o0, o1, o2, o3] <;> exact key _ _ _ (by decide) (by decide) (by decide) _ rfl
      · simp only [if_neg hh, z00, if_true]
        rcases h5 with rfl | rfl <;> rcases h6 with rfl | rfl <;> rcases h7 with rfl | rfl <;> simp only [o0, o1, o2, o3] <;> exact key _ _ _ (by decide) (by decide) (by decide) _ rfl
    · have c1 : (kg K i).1 = 1 := by omega
      rw [if_neg c0, c1, if_pos (show nI 1 = 1 from rfl)]
      by_cases hh : hol w L (kg K i) = true
      · simp only [if_pos hh, z01, if_false]
        rcases h5 with rfl | rfl <;> rcases h6 with rfl | rfl <;> rcases h7 with rfl | rfl <;> simp only [o0, o1, o2, o3] <;> exact key _ _ _ (by decide) (by decide) (by decide) _ rfl
      · simp only [if_neg hh, z00, if_true]
        rcases h5 with rfl | rfl <;> rcases h6 with rfl | rfl <;> rcases h7 with rfl | rfl <;> simp only [o0, o1, o2, o3] <;> exact key _ _ _ (by decide) (by decide) (by decide) _ rfl
end Rule
