section Crease
variable {κ : Ko}
def cutB (S : Nat → Int32) (w : Nat) (x : Int32) (f : Nat) : Bool := decide (S (10 + 4 * f + w) < x ∧ x < S (10 + 4 * f + w) + S (10 + 4 * f + (2 + w)))
theorem d_isCut {dt : AS} {a : Nat} {S : Nat → Int32} (h : ShD κ dt a S) {f w : Nat} (hf : f < nF S) (hF : nF S ≤ 200) (hw : w < 2) (x : Int32) : f_Sh_isCutBy κ a (nI f) (nI w) x dt = some (if cutB S w x f = true then 1 else 0) := by
  have rd : ∀ u y, u < 4 → y = nI u → f_Sh_facetPart κ a (nI f) y dt = some (S (10 + 4 * f + u)) := by
    intro u y hu hy
    rw [f_Sh_facetPart_eq, hy, ix4, gat_n rfl (by omega) (by decide)]
    exact congrArg some (h.2.2.2.1 f hf u hu)
  unfold f_Sh_isCutBy
  rw [rd w _ (by omega) (by rw [show (0 : Int32) = nI 0 from rfl, nI_add, Nat.zero_add]), bnd_t, jn_e, rd (2 + w) _ (by omega) (by rw [show (2 : Int32) = nI 2 from rfl, nI_add]), bnd_t]
  unfold cutB
  simp only [decide_eq_true_eq]
  by_cases c1 : x ≤ S (10 + 4 * f + w)
  · rw [if_pos c1, if_neg (fun z => Int32.not_lt.mpr c1 z.1)]
  · rw [if_neg c1]
    by_cases c2 : S (10 + 4 * f + w) + S (10 + 4 * f + (2 + w)) ≤ x
    · rw [if_pos c2, if_neg (fun z => Int32.not_lt.mpr c2 z.2)]
    · rw [if_neg c2, if_pos ⟨Int32.not_le.mp c1, Int32.not_le.mp c2⟩]
theorem r_isThr {rt : AS} {q s : Nat} (hs : s < 7) {f w : Nat} (hf : f < 200) (hw : w < 2) (x : Int32) : f_R_isThrough κ q (nI s) (nI f) (nI w) x rt = some (if cutB (rw_ rt q s) w x f = true then 1 else 0) := by
  unfold f_R_isThrough
  rw [r_facet hs hf (p := w) (by omega) rfl, bnd_t, jn_e, bnd_t, r_facet hs hf (p := 2 + w) (by omega) (by rw [show (2 : Int32) = nI 2 from rfl, nI_add]), bnd_t]
  unfold cutB
  simp only [decide_eq_true_eq]
  by_cases c1 : x ≤ rw_ rt q s (10 + 4 * f + w)
  · rw [if_pos c1, if_neg (fun z => Int32.not_lt.mpr c1 z.1)]
  · rw [if_neg c1]
    by_cases c2 : rw_ rt q s (10 + 4 * f + w) + rw_ rt q s (10 + 4 * f + (2 + w)) ≤ x
    · rw [if_pos c2, if_neg (fun z => Int32.not_lt.mpr c2 z.2)]
    · rw [if_neg c2, if_pos ⟨Int32.not_le.mp c1, Int32.not_le.mp c2⟩]
theorem cnt_acc (P : Nat → Bool) (i : Nat) : (if (if P i = true then (1 : Int32) else 0) = 0 then nI (cnt P i) + 0 else nI (cnt P i) + 1) = nI (cnt P (i + 1)) := by
  rw [cnt_s]
  by_cases h : P i = true
  · rw [if_pos h, if_pos h, if_neg (by decide), nI_1]
  · rw [if_neg h, if_neg h, if_pos rfl]; exact Int32.add_zero _
theorem d_cutCount {dt : AS} {a : Nat} {S : Nat → Int32} (h : ShD κ dt a S) (h6 : S 6 = nI (nF S)) (hF : nF S ≤ 200) {w : Nat} (hw : w < 2) (x : Int32) (k : Nat → Int32 → Int32 → Int32 → AS → Option (Int32 × AS)) : L_Sh_crease_5 κ k FU a (nI w) x 0 0 dt = k a (nI w) x (nI (cnt (cutB S w x) (nF S))) dt := by
  have h11 : gi dt a 11 = nI (nF S) := by rw [h.2.1.2.2.2.2.2.1]; exact h6
  refine lk1 (fun d t i => L_Sh_crease_5 κ k d a (nI w) x t i dt) (fun z => z = k a (nI w) x (nI (cnt (cutB S w x) (nF S))) dt) (fun i t => t = nI (cnt (cutB S w x) i)) (n := nF S) ?_ ?_ (nF S) 0 FU 0 (by omega) (FUn (by omega)) rfl
  · rintro d t rfl
    rw [L_Sh_crease_5, h11, if_pos (nI_le (Nat.le_refl _) (by omega))]
  · rintro d t i hi rfl ih
    rw [L_Sh_crease_5, h11, if_neg (nI_ge hi (by omega)), d_isCut h hi hF hw, bnd_t, cnt_acc, nI_1]
    exact ih _ rfl
theorem r_cutCount {rt : AS} {q s : Nat} (hs : s < 7) {n : Nat} (hF : n ≤ 200) {w : Nat} (hw : w < 2) (x : Int32) (k : Nat → Int32 → Int32 → Int32 → Int32 → Int32 → AS → Option (Int32 × AS)) : L_R_foldsAt_48 κ k FU q (nI s) (nI w) x (nI n) 0 0 rt = k q (nI s) (nI w) x (nI n) (nI (cnt (cutB (rw_ rt q s) w x) n)) rt := by
  refine lk1 (fun d t i => L_R_foldsAt_48 κ k d q (nI s) (nI w) x (nI n) t i rt) (fun z => z = k q (nI s) (nI w) x (nI n) (nI (cnt (cutB (rw_ rt q s) w x) n)) rt) (fun i t => t = nI (cnt (cutB (rw_ rt q s) w x) i)) (n := n) ?_ ?_ n 0 FU 0 (by omega) (FUn (by omega)) rfl
  · rintro d t rfl
    rw [L_R_foldsAt_48, if_pos (nI_le (Nat.le_refl _) (by omega))]
  · rintro d t i hi rfl ih
    rw [L_R_foldsAt_48, if_neg (nI_ge hi (by omega)), r_isThr hs (by omega) hw, bnd_t, cnt_acc, nI_1]
    exact ih _ rfl
theorem cnt_lt {P : Nat → Bool} {i n : Nat} (hi : i < n) (hp : P i = true) : cnt P i + 1 ≤ cnt P n := by
  have : ∀ m, cnt P (i + 1) ≤ cnt P (i + 1 + m) := by
    intro m
    induction m with
    | zero => exact Nat.le_refl _
    | succ m ih => rw [show i + 1 + (m + 1) = (i + 1 + m) + 1 from rfl, cnt_s P (i + 1 + m)]; omega
  have h1 := this (n - i - 1)
  rw [show i + 1 + (n - i - 1) = n by omega, cnt_s, if_pos hp] at h1
  exact h1
theorem ridgeS_fac {S : Nat → Int32} {m : Nat} {a b c d e : Int32} {f u : Nat} (hf : f < 200) (hu : u < 4) : ridgeS S m a b c d e (10 + 4 * f + u) = S (10 + 4 * f + u) := ridgeS_lo (by omega) (by omega)
theorem cutS_nF {S : Nat → Int32} {n f w : Nat} {p : Int32} (hn : n < 2 ^ 31 - 1) : nF (cutS S n f w p) = n + 1 := by unfold nF; rw [cutS_6, nI_clamp (by omega)]
/-- the cutting, side by side: the reference's ridge has come already -/
theorem q_cutLoop {dt rt : AS} {a q s : Nat} {S : Nat → Int32} (h : ShD κ dt a S) (hS : SOK S) (hs : s < 7) {w px : Nat} (hw : w < 2) (hpx : px ≤ 200) (side : Int32) (hr : rw_ rt q s = ridgeS S (nR S) (nI w) (nI px) 0 side 1) (hc : nF S + cnt (cutB S w (nI px)) (nF S) ≤ 200) (c : Int32) (k : Nat → Int32 → Int32 → Int32 → AS → Option (Int32 × AS)) :
    ∃ dt' rt' S', L_Sh_crease_76 κ k FU a (nI w) (nI px) c (nI (nF S)) 0 dt = k a (nI w) (nI px) c dt' ∧ L_R_foldsAt_121 κ FU q (nI s) (nI w) (nI px) (nI (nF S)) c 0 rt = some (c, rt') ∧ ShD κ dt' a S' ∧ SOK S' ∧ rw_ rt' q s = ridgeS S' (nR S) (nI w) (nI px) 0 side 1 ∧ (∀ j, j < 10 → j ≠ 6 → S' j = S j) ∧ Same (shW κ a) dt dt' ∧ FrR q s rt rt' := by
  have hF := hS.nF
  refine lk2 (fun d (t : AS × AS) i => L_Sh_crease_76 κ k d a (nI w) (nI px) c (nI (nF S)) i t.1) (fun d t i => L_R_foldsAt_121 κ d q (nI s) (nI w) (nI px) (nI (nF S)) c i t.2) (fun x y => ∃ dt' rt' S', x = k a (nI w) (nI px) c dt' ∧ y = some (c, rt') ∧ ShD κ dt' a S' ∧ SOK S' ∧ rw_ rt' q s = ridgeS S' (nR S) (nI w) (nI px) 0 side 1 ∧ (∀ j, j < 10 → j ≠ 6 → S' j = S j) ∧ Same (shW κ a) dt dt' ∧ FrR q s rt rt')
    (fun i t => ∃ S', ShD κ t.1 a S' ∧ SOK S' ∧ rw_ t.2 q s = ridgeS S' (nR S) (nI w) (nI px) 0 side 1 ∧ (∀ j, j < 10 → j ≠ 6 → S' j = S j) ∧ Same (shW κ a) dt t.1 ∧ FrR q s rt t.2 ∧ nF S' = nF S + cnt (cutB S w (nI px)) i ∧ ∀ f, i ≤ f → f < nF S → ∀ u, u < 4 → S' (10 + 4 * f + u) = S (10 + 4 * f + u)) (n := nF S) ?_ ?_ (nF S) 0 FU (dt, rt) (by omega) (FUn (by omega)) ⟨S, h, hS, hr, fun _ _ _ => rfl, Same.rf _ _, FrR.rf _ _ _, rfl, fun _ _ _ _ _ => rfl⟩
  · rintro d ⟨d1, r1⟩ ⟨S', g1, g2, g3, g4, g5, g6, -, -⟩
    simp only at g1 g3 g5 g6 ⊢
    rw [L_Sh_crease_76, L_R_foldsAt_121, if_pos (nI_le (Nat.le_refl _) (by omega)), if_pos (nI_le (Nat.le_refl _) (by omega))]
    exact ⟨d1, r1, S', rfl, rfl, g1, g2, g3, g4, g5, g6⟩
  · rintro d ⟨d1, r1⟩ i hi ⟨S', g1, g2, g3, g4, g5, g6, g7, g8⟩ ih
    simp only at g1 g3 g5 g6 ih ⊢
    have hF' := g2.nF
    have hiF : i < nF S' := by omega
    have eB : cutB S' w (nI px) i = cutB S w (nI px) i := by unfold cutB; rw [g8 i (Nat.le_refl _) hi w (by omega), g8 i (Nat.le_refl _) hi (2 + w) (by omega)]
    have eR : cutB (rw_ r1 q s) w (nI px) i = cutB S w (nI px) i := by rw [← eB, g3]; unfold cutB; rw [ridgeS_fac (by omega) (by omega), ridgeS_fac (by omega) (by omega)]
    have h6r : rw_ r1 q s 6 = nI (nF S') := by rw [g3, ridgeS_lo (by decide) (by decide)]; exact hF'.1
    rw [L_Sh_crease_76, L_R_foldsAt_121, if_neg (nI_ge hi (by omega)), if_neg (nI_ge hi (by omega)), d_isCut g1 hiF hF'.2.1 hw, r_isThr hs (by omega) hw, bnd_t, bnd_t, jn_e, jn_e, eB, eR]
    by_cases hb : cutB S w (nI px) i = true
    · rw [if_pos hb, if_neg (show ¬ (1 : Int32) = 0 by decide)]
      have hlt := cnt_lt hi hb
      have rdw : f_Sh_facetPart κ a (nI i) ((0 : Int32) + nI w) d1 = some (S' (10 + 4 * i + w)) := by
        rw [show (0 : Int32) = nI 0 from rfl, nI_add, Nat.zero_add, f_Sh_facetPart_eq, ix4, gat_n rfl (by omega) (by decide)]
        exact congrArg some (g1.2.2.2.1 i hiF w (by omega))
      have rrw : f_R_facetOf κ q (nI s) (nI i) (nI w) r1 = some (S' (10 + 4 * i + w)) := by
        rw [r_facet hs (by omega) (p := w) (by omega) rfl, g3, ridgeS_fac (by omega) (by omega)]
      have hw4 := g2.fn hiF w (by omega)
      have hw5 := g2.fn hiF (2 + w) (by omega)
      have hb2 : cutB S' w (nI px) i = true := by rw [eB]; exact hb
      unfold cutB at hb2
      simp only [decide_eq_true_eq, hw4.1, hw5.1, nI_add] at hb2
      rw [nI_ltI (by omega) (by omega), nI_ltI (by omega) (by omega)] at hb2
      have esub : nI px - S' (10 + 4 * i + w) = nI (px - fN S' i w) := by rw [hw4.1, nI_sub (by omega)]
      obtain ⟨d2, k1, k2, k3⟩ := d_cut (κ := κ) g1 hF'.1 (by omega) hiF hw (nI (px - fN S' i w))
      obtain ⟨r2, l1, l2, l3⟩ := r_cuts (κ := κ) hs h6r (by omega) hiF hw (nI (px - fN S' i w))
      rw [rdw, rrw, bnd_t, bnd_t, esub, k1, l1, bnd_t, bnd_t, nI_1]
      refine ih (d2, r2) ⟨cutS S' (nF S') i w (nI (px - fN S' i w)), k2, g2.cut rfl (by omega) hiF hw (by omega) (by omega), ?_, ?_, g5.tr k3, g6.tr l3, ?_, ?_⟩
      · show rw_ r2 q s = _
        rw [l2, g3, cut_ridge (by omega) hiF]
      · intro j hj h6
        rw [cutS_lo hj h6]; exact g4 j hj h6
      · rw [cnt_s, if_pos hb]
        rw [cutS_nF (by omega)]
        omega
      · intro f hf1 hf2 u hu
        rw [cutS_old (by omega) (by omega) hu]
        exact g8 f (by omega) hf2 u hu
    · rw [if_neg hb, if_pos rfl, nI_1]
      exact ih (d1, r1) ⟨S', g1, g2, g3, g4, g5, g6, by rw [cnt_s, if_neg hb]; exact g7, fun f hf1 hf2 u hu => g8 f (by omega) hf2 u hu⟩
theorem nI_ltk {m k : Nat} {y : Int32} (hy : y = nI k) (hm : m < 2 ^ 31) (hk : k < 2 ^ 31) : (nI m < y ↔ m < k) ∧ (nI m ≤ y ↔ m ≤ k) ∧ (y < nI m ↔ k < m) ∧ (y ≤ nI m ↔ k ≤ m) ∧ (nI m = y ↔ m = k) := by
  subst hy
  exact ⟨nI_ltI hm hk, nI_leI hm hk, nI_ltI hk hm, nI_leI hk hm, nI_eq hm hk⟩
/-- a fold -/
theorem q_crease {dt rt : AS} {a q s : Nat} (h : SR κ dt a rt q s) {w : Nat} (hw : w < 2) (x : Int32) : ∃ v dt' rt', f_Sh_crease κ a (nI w) x dt = some (v, dt') ∧ f_R_foldsAt κ q (nI s) (nI w) x rt = some (v, rt') ∧ SR κ dt' a rt' q s ∧ Same (shW κ a) dt dt' ∧ FrR q s rt rt' := by
  obtain ⟨hD, hS, hs⟩ := h
  have hF := hS.nF
  have hRR := hS.nR
  have b0 : sN (rw_ rt q s) 0 ≤ 200 ∧ rw_ rt q s 0 = nI (sN (rw_ rt q s) 0) := ⟨((hS.1.1).cl (by decide)).2.2, ((hS.1.1).cl (by decide)).1⟩
  have b1' : sN (rw_ rt q s) 1 ≤ 200 ∧ rw_ rt q s 1 = nI (sN (rw_ rt q s) 1) := ⟨((hS.1.2.1).cl (by decide)).2.2, ((hS.1.2.1).cl (by decide)).1⟩
  have p0 : 2 ≤ sN (rw_ rt q s) 0 := ((hS.1.1).cl (by decide)).2.1
  have p1 : 2 ≤ sN (rw_ rt q s) 1 := ((hS.1.2.1).cl (by decide)).2.1
  have bw : ∀ z, z < 2 → 2 ≤ sN (rw_ rt q s) z ∧ sN (rw_ rt q s) z ≤ 200 ∧ rw_ rt q s z = nI (sN (rw_ rt q s) z) := fun z hz => by
    have hc : z = 0 ∨ z = 1 := by omega
    rcases hc with rfl | rfl
    · exact ⟨p0, b0⟩
    · exact ⟨p1, b1'⟩
  have bww := bw w hw
  have bwo := bw (1 - w) (by omega)
  have h12 : gi dt a 12 = nI (nR (rw_ rt q s)) := by rw [hD.2.1.2.2.2.2.2.2.1]; exact hRR.1
  have h11 : gi dt a 11 = nI (nF (rw_ rt q s)) := by rw [hD.2.1.2.2.2.2.2.1]; exact hF.1
  have hcl : cnt (cutB (rw_ rt q s) w x) (nF (rw_ rt q s)) ≤ nF (rw_ rt q s) := cnt_le _ _
  unfold f_Sh_crease f_R_foldsAt
  rw [d_cutCount hD hF.1 hF.2.1 hw, r_sheet hs (k := w) (by omega) rfl, bnd_t]
  simp only [jn_e, h11, h12]
  rw [bww.2.2, show sN (rw_ rt q s) w = (sN (rw_ rt q s) w - 1) + 1 by omega, nI_pred, show (1 : Int64) = (1 : Int32).toInt64 from rfl]
  simp only [wi_t]
  by_cases hx : (1 : Int32) ≤ x ∧ x ≤ nI (sN (rw_ rt q s) w - 1)
  · rw [if_neg (show ¬ ¬ ((1 : Int32) ≤ x ∧ x ≤ nI (sN (rw_ rt q s) w - 1)) from fun z => z hx), r_sheet hs (k := 7) (y := 7) (by decide) rfl, bnd_t, r_sheet hs (k := 6) (y := 6) (by decide) rfl, bnd_t, hRR.1, hF.1, r_cutCount hs hF.2.1 hw]
    obtain ⟨px, px1, rfl⟩ := nI_of2 (M := nI (sN (rw_ rt q s) w - 1)) (n := sN (rw_ rt q s) w - 1) (by rw [nI_toInt (by omega)]) (fun z => by
      have h1 := hx.1
      rw [i32lt] at z
      rw [i32le] at h1
      have e0 : (0 : Int32).toInt = 0 := rfl
      have e1 : (1 : Int32).toInt = 1 := rfl
      omega) hx.2
    have hx1 : 1 ≤ px := (nI_ltk (m := px) (k := 1) (y := 1) rfl (by omega) (by decide)).2.2.2.1.mp hx.1
    generalize hC : cnt (cutB (rw_ rt q s) w (nI px)) (nF (rw_ rt q s)) = C at *
    have c0 := (nI_ltk (m := C) (k := 0) (y := 0) rfl (by omega) (by decide)).2.2.2.2
    have c200 := (nI_ltk (m := nF (rw_ rt q s) + C) (k := 200) (y := 200) rfl (by omega) (by decide))
    have c400 := (nI_ltk (m := nR (rw_ rt q s)) (k := 400) (y := 400) rfl (by omega) (by decide))
    simp only [nI_add, c0, c200, c400]
    by_cases k1 : C = 0
    · rw [if_pos k1, if_pos k1, ite_self]
      exact ⟨_, dt, rt, rfl, rfl, ⟨hD, hS, hs⟩, Same.rf _ _, FrR.rf _ _ _⟩
    · rw [if_neg k1, if_neg k1]
      by_cases k2 : 200 < nF (rw_ rt q s) + C
      · rw [if_pos k2, if_neg (show ¬ nF (rw_ rt q s) + C ≤ 200 by omega), ite_self]
        exact ⟨_, dt, rt, rfl, rfl, ⟨hD, hS, hs⟩, Same.rf _ _, FrR.rf _ _ _⟩
      · rw [if_neg k2, if_pos (show nF (rw_ rt q s) + C ≤ 200 by omega)]
        by_cases k3 : nR (rw_ rt q s) < 400
        · rw [if_pos k3, if_neg (show ¬ nR (rw_ rt q s) = 400 by omega), r_sheet hs (k := 1 - w) (by omega) (by rw [show (1 : Int32) = nI 1 from rfl, nI_sub (by omega)]), bnd_t]
          obtain ⟨r1, e1, e2, e3⟩ := r_ridgeComes (κ := κ) (rt := rt) hs hRR.1 k3 (nI w) (nI px) 0 (rw_ rt q s (1 - w)) 1
          rw [e1, bnd_t]
          obtain ⟨d2, r2, S', g1, g2, g3, g4, g5, g6, g7, g8⟩ := q_cutLoop (κ := κ) (rt := r1) hD hS hs hw (by omega) (rw_ rt q s (1 - w)) e2 (by rw [hC]; omega) (nI C) (fun (v23 : Nat) (v25 : Int32) (v26 : Int32) (v27 : Int32) (s28 : AS) => bnd (f_Sh_addRidge κ v23 v25 v26 (0 : Int32) (f_Sh_side κ v23 (if v25 = 0 then (1 : Int32) else (0 : Int32) : Int32) s28) (1 : Int32) s28) (fun s29 => some (v27, s29)))
          rw [g1, g2]
          have eR' : nR S' = nR (rw_ rt q s) := by unfold nR; rw [g6 7 (by decide) (by decide)]
          have h7' : S' 7 = nI (nR (rw_ rt q s)) := by rw [g6 7 (by decide) (by decide)]; exact hRR.1
          have h12' : gi d2 a 12 = nI (nR (rw_ rt q s)) := by rw [g3.2.1.2.2.2.2.2.2.1]; exact h7'
          have h10' : gi d2 a 10 = S' 5 := g3.2.1.2.2.2.2.1
          have eside : f_Sh_side κ a (if nI w = 0 then (1 : Int32) else 0) d2 = rw_ rt q s (1 - w) := by
            unfold f_Sh_side
            have hc : w = 0 ∨ w = 1 := by omega
            rcases hc with rfl | rfl
            · rw [if_pos (show nI 0 = 0 from rfl), if_neg (show ¬ (1 : Int32) = 0 by decide), g3.2.1.2.1, g6 1 (by decide) (by decide)]
            · rw [if_neg (show ¬ nI 1 = 0 by decide), if_pos rfl, g3.2.1.1, g6 0 (by decide) (by decide)]
          rw [eside, d_addRidge d2 h12' k3, bnd_t, h10']
          have hsh := ridgeD_sh g3 h7' k3 g4.nF.2.1 (nI w) (nI px) 0 (rw_ rt q s (1 - w)) 1
          have sS' : ∀ z, z < 2 → sN S' z = sN (rw_ rt q s) z := fun z hz => by unfold sN; rw [g6 z (by omega) (by omega)]
          have hok := g4.ridge (w := w) (p := px) (f := 0) (t := sN (rw_ rt q s) (1 - w)) (k := 1) eR' k3 hw hx1 (by rw [sS' w hw]; omega) (by omega) (by rw [sS' _ (by omega)]; exact Nat.le_refl _) (by decide)
          rw [← bwo.2.2] at hok
          refine ⟨_, _, r2, rfl, rfl, ⟨?_, ?_, hs⟩, g7.tr (ridgeD_same d2 _ _ _ _ _ _ _), e3.tr g8⟩
          · rw [g5]; exact hsh
          · rw [g5]; exact hok
        · rw [if_neg k3, if_pos (show nR (rw_ rt q s) = 400 by omega)]
          exact ⟨_, dt, rt, rfl, rfl, ⟨hD, hS, hs⟩, Same.rf _ _, FrR.rf _ _ _⟩
  · rw [if_pos hx]
    -- nothing is cut outside
    have z0 : cnt (cutB (rw_ rt q s) w x) (nF (rw_ rt q s)) = 0 := by
      have : cnt (cutB (rw_ rt q s) w x) (nF (rw_ rt q s)) ≤ cnt (fun _ => false) (nF (rw_ rt q s)) := by
        refine cnt_mono (fun i hi hb => ?_)
        exfalso
        unfold cutB at hb
        simp only [decide_eq_true_eq] at hb
        have f1 := hS.fn hi w (by omega)
        have f2 := hS.fn hi (2 + w) (by omega)
        rw [f1.1, f2.1, nI_add] at hb
        have hg := hS.2.2.2.1 i hi
        have hsum : fN (rw_ rt q s) i w + fN (rw_ rt q s) i (2 + w) ≤ sN (rw_ rt q s) w := by
          have hc : w = 0 ∨ w = 1 := by omega
          rcases hc with rfl | rfl
          · exact hg.1
          · exact hg.2
        apply hx
        have l1 := hb.1
        have l2 := hb.2
        rw [i32lt, nI_toInt (by omega)] at l1 l2
        rw [i32le, i32le, nI_toInt (by omega)]
        have e1 : (1 : Int32).toInt = 1 := rfl
        omega
      have zz : ∀ m, cnt (fun _ => false) m = 0 := by
        intro m
        induction m with
        | zero => rfl
        | succ m ih => rw [cnt_s, ih]; rfl
      rw [zz] at this
      omega
    rw [z0, if_pos (show nI 0 = 0 from rfl)]
    exact ⟨_, dt, rt, rfl, rfl, ⟨hD, hS, hs⟩, Same.rf _ _, FrR.rf _ _ _⟩
end Crease
