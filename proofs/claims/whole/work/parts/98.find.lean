/-! neighbours found: the class -/
def adj (S : Nat → Int32) (f g : Nat) : Bool := !decide (g = f) && bsd S f g
def stN (S : Nat → Int32) (f : Nat) : Nat := sumF (fun f' => cnt (adj S f') (nF S)) f
theorem bsd_sym (S : Nat → Int32) (f g : Nat) : bsd S f g = bsd S g f := by
  unfold bsd
  exact decide_eq_decide.mpr ⟨fun h => by omega, fun h => by omega⟩
theorem adj_n (S : Nat → Int32) (f : Nat) : cnt (adj S f) f = cnt (bsd S f) f := cnt_congr (fun i hi => by
  unfold adj
  rw [decide_eq_false (show ¬ i = f by omega)]
  rfl)
theorem cnt_sumF (P : Nat → Nat → Bool) : ∀ n m, sumF (fun f => cnt (P f) (m + 1)) n = sumF (fun f => cnt (P f) m) n + cnt (fun f => P f m) n
  | 0, _ => rfl
  | n + 1, m => by
    have := cnt_sumF P n m
    rw [sumF, sumF, this, cnt_s, cnt_s]
    omega
theorem sum_adj (S : Nat → Int32) : ∀ n, sumF (fun f => cnt (adj S f) n) n = 2 * cnt2 (bsd S) n
  | 0 => rfl
  | n + 1 => by
    have ih := sum_adj S n
    have e1 := cnt_sumF (adj S) n n
    have e2 : cnt (fun f => adj S f n) n = cnt (bsd S n) n := cnt_congr (fun i hi => by
      unfold adj
      rw [decide_eq_false (show ¬ n = i by omega), bsd_sym]
      rfl)
    have e3 : adj S n n = false := by unfold adj; rw [decide_eq_true rfl]; rfl
    have e4 : cnt (adj S n) (n + 1) = cnt (bsd S n) n := by rw [cnt_s, e3, adj_n]; rfl
    have e5 : cnt2 (bsd S) (n + 1) = cnt2 (bsd S) n + cnt (bsd S n) n := rfl
    rw [sumF, e1, ih, e2, e4, e5]
    omega
theorem stN_s (S : Nat → Int32) (f : Nat) : stN S (f + 1) = stN S f + cnt (adj S f) (nF S) := rfl
theorem stN_mono (S : Nat → Int32) (f k : Nat) : stN S f ≤ stN S (f + k) := sumF_up _ _ _
theorem stN_le {S : Nat → Int32} (hk : SOK S) {f : Nat} (hf : f ≤ nF S) : stN S f ≤ 1194 := by
  have h1 := stN_mono S f (nF S - f)
  rw [show f + (nF S - f) = nF S by omega] at h1
  have h2 : stN S (nF S) = 2 * cnt2 (bsd S) (nF S) := sum_adj S (nF S)
  have h3 := hk.2.2.2.2.2
  have h4 := sok_6 hk
  omega
/-- where a neighbour stands among others -/
theorem pos_lt {S : Nat → Int32} {f f' g' : Nat} (hf : f' < f) (hg : g' < nF S) (ha : adj S f' g' = true) : stN S f' + cnt (adj S f') g' < stN S f := by
  have h1 := cnt_lt (P := adj S f') hg ha
  have h2 := stN_mono S (f' + 1) (f - (f' + 1))
  rw [show f' + 1 + (f - (f' + 1)) = f by omega, stN_s] at h2
  omega
def NBP (dt : AS) (Z : Nat) (S : Nat → Int32) (f g : Nat) : Prop := gi dt Z 4 = nI (nF S) ∧ (∀ f', f' < f → gi dt (Z + 1) f' = nI (stN S f')) ∧ (∀ f', f' < f → ∀ g', g' < nF S → adj S f' g' = true → gi dt (Z + 2) (stN S f' + cnt (adj S f') g') = nI g') ∧ ∀ g', g' < g → adj S f g' = true → gi dt (Z + 2) (stN S f + cnt (adj S f) g') = nI g'
def NB (dt : AS) (Z : Nat) (S : Nat → Int32) : Prop := gi dt Z 4 = nI (nF S) ∧ (∀ f', f' ≤ nF S → gi dt (Z + 1) f' = nI (stN S f')) ∧ (∀ f', f' < nF S → ∀ g', g' < nF S → adj S f' g' = true → gi dt (Z + 2) (stN S f' + cnt (adj S f') g') = nI g')
def nbW (Z p : Nat) : Prop := Z ≤ p ∧ p < Z + 5
noncomputable def fndK : Nat → Int32 → AS → Option AS := fun v15 v17 s18 => some (gput s18 (v15 + 1) 201 (gi s18 v15 4) v17)
theorem find_e (κ : Ko) (a0 a1 : Nat) (st : AS) : f_Nb_find κ a0 a1 st = L_Nb_find_12 κ fndK FU a0 a1 (0 : Int32) (0 : Int32) (ui st a0 4 (f_Sh_facetCount κ a1 st)) := rfl
section Find
variable {κ : Ko} {dt rt : AS} {a q s Z : Nat} {S : Nat → Int32}
theorem d_bsdS (h : ShD κ dt a S) (hk : SOK S) {f g : Nat} (hf : f < nF S) (hg : g < nF S) : f_Sh_areBeside κ a (nI f) (nI g) dt = some (if bsd S f g = true then 1 else 0) := by
  have := d_bsd (SRd h hk) (f := f) (g := g) (by rw [rowSt_rw]; exact hf) (by rw [rowSt_rw]; exact hg)
  rw [rowSt_rw] at this
  exact this
theorem r_bsdS (h : rw_ rt q s = S) (hk : SOK S) (hs : s < 7) {f g : Nat} (hf : f < nF S) (hg : g < nF S) : f_R_areBeside κ q (nI s) (nI f) (nI g) rt = some (if bsd S f g = true then 1 else 0) := by
  have := r_bsd (SRr κ h hk hs) (f := f) (g := g) (by rw [h]; exact hf) (by rw [h]; exact hg)
  rw [h] at this
  exact this
theorem d_findL (hk : SOK S) (hZ : Z + 4 < a ∨ a + 3 < Z) {f : Nat} (hf : f < nF S) (k : Nat → Nat → Int32 → Int32 → AS → Option AS) : ∀ n g d dt, g + n = nF S → n < d → NBP dt Z S f g → gi dt (Z + 1) f = nI (stN S f) → ShD κ dt a S →
    ∃ dt2, L_Nb_find_32 κ k d Z a (nI (stN S f + cnt (adj S f) g)) (nI f) (nI g) dt = k Z a (nI (stN S (f + 1))) (nI f) dt2 ∧ NBP dt2 Z S (f + 1) 0 ∧ Same (fun p _ => nbW Z p) dt dt2
  | 0, g, d, dt, hg, hd, hN, h1, hD => by
    obtain ⟨d, rfl⟩ : ∃ z, d = z + 1 := ⟨d - 1, by omega⟩
    have hF := sok_6 hk
    rw [L_Nb_find_32, hN.1, if_pos (nI_le (by omega) (by omega)), show g = nF S by omega, ← stN_s]
    refine ⟨dt, rfl, ⟨hN.1, fun f' hf' => ?_, fun f' hf' g' hg' ha => ?_, fun g' hg' => absurd hg' (Nat.not_lt_zero _)⟩, Same.rf _ _⟩
    · by_cases e : f' = f
      · rw [e]; exact h1
      · exact hN.2.1 f' (by omega)
    · by_cases e : f' = f
      · rw [e] at ha ⊢; exact hN.2.2.2 g' (by omega) ha
      · exact hN.2.2.1 f' (by omega) g' hg' ha
  | n + 1, g, d, dt, hg, hd, hN, h1, hD => by
    obtain ⟨d, rfl⟩ : ∃ z, d = z + 1 := ⟨d - 1, by omega⟩
    have hF := sok_6 hk
    have hg' : g < nF S := by omega
    have e1 := d_bsdS hD hk hf hg'
    have q1 : (nI g = nI f) = (g = f) := propext (nI_eq (by omega) (by omega))
    rw [L_Nb_find_32, hN.1, if_neg (nI_ge hg' (by omega)), e1]
    simp only [jn_e, q1, bnd_t]
    rw [nI_1, nI_1]
    have skip : adj S f g = false → ∃ dt2, L_Nb_find_32 κ k d Z a (nI (stN S f + cnt (adj S f) g)) (nI f) (nI (g + 1)) dt = k Z a (nI (stN S (f + 1))) (nI f) dt2 ∧ NBP dt2 Z S (f + 1) 0 ∧ Same (fun p _ => nbW Z p) dt dt2 := fun ha => by
      have ec : cnt (adj S f) (g + 1) = cnt (adj S f) g := by rw [cnt_s, ha]; rfl
      have := d_findL hk hZ hf k n (g + 1) d dt (by omega) (by omega) ⟨hN.1, hN.2.1, hN.2.2.1, fun g' h2 ha' => hN.2.2.2 g' (by
        by_cases e : g' = g
        · rw [e, ha] at ha'; exact absurd ha' (by decide)
        · omega) ha'⟩ h1 hD
      rw [ec] at this
      exact this
    by_cases e : g = f
    · rw [if_pos e]
      exact skip (by unfold adj; rw [decide_eq_true e]; rfl)
    · rw [if_neg e]
      by_cases hb : bsd S f g = true
      · have ha : adj S f g = true := by unfold adj; rw [decide_eq_false e, hb]; rfl
        rw [if_pos hb, if_neg (by decide)]
        have hpos : stN S f + cnt (adj S f) g < 1200 := by
          have := pos_lt (S := S) (f := f + 1) (by omega) hg' ha
          have := stN_le hk (f := f + 1) (by omega)
          omega
        rw [gput_n (j := stN S f + cnt (adj S f) g) rfl hpos (by decide)]
        have ec : cnt (adj S f) (g + 1) = cnt (adj S f) g + 1 := by rw [cnt_s, if_pos ha]
        have w1 : Same (fun p _ => nbW Z p) dt (ui dt (Z + 2) (stN S f + cnt (adj S f) g) (nI g)) := (Same.rf _ _).ui ⟨by omega, by omega⟩
        obtain ⟨d2, z1, z2, z3⟩ := d_findL hk hZ hf k n (g + 1) d (ui dt (Z + 2) (stN S f + cnt (adj S f) g) (nI g)) (by omega) (by omega) ⟨by rw [gi_ui, if_neg (by omega)]; exact hN.1, fun f' hf' => by rw [gi_ui, if_neg (by omega)]; exact hN.2.1 f' hf', fun f' hf' g' hg2 ha' => by
            have := pos_lt (S := S) hf' hg2 ha'
            rw [gi_ui, if_neg (by omega)]; exact hN.2.2.1 f' hf' g' hg2 ha', fun g' hg2 ha' => by
            by_cases eg : g' = g
            · rw [eg, gi_ui, if_pos ⟨rfl, rfl⟩]
            · have := cnt_lt (P := adj S f) (i := g') (n := g) (by omega) ha'
              rw [gi_ui, if_neg (by omega)]; exact hN.2.2.2 g' (by omega) ha'⟩ (by rw [gi_ui, if_neg (by omega)]; exact h1) (hD.fr w1 (fun p j x1 x2 z => by unfold nbW at z; omega))
        rw [ec, ← Nat.add_assoc] at z1
        exact ⟨d2, z1, z2, w1.tr z3⟩
      · rw [if_neg hb, if_pos rfl]
        have hb' : bsd S f g = false := by revert hb; cases bsd S f g <;> decide
        exact skip (by unfold adj; rw [hb', Bool.and_false])
theorem d_findO (hk : SOK S) (hZ : Z + 4 < a ∨ a + 3 < Z) : ∀ n f d dt, f + n = nF S → n < d → NBP dt Z S f 0 → ShD κ dt a S →
    ∃ dt2, L_Nb_find_12 κ fndK d Z a (nI (stN S f)) (nI f) dt = some dt2 ∧ NB dt2 Z S ∧ Same (fun p _ => nbW Z p) dt dt2
  | 0, f, d, dt, hf, hd, hN, hD => by
    obtain ⟨d, rfl⟩ : ∃ z, d = z + 1 := ⟨d - 1, by omega⟩
    have hF := sok_6 hk
    have ef : f = nF S := by omega
    have hst := stN_le hk (Nat.le_refl (nF S))
    rw [L_Nb_find_12, hN.1, if_pos (nI_le (by omega) (by omega))]
    unfold fndK
    rw [hN.1, gput_n (j := nF S) rfl (by omega) (by decide)]
    refine ⟨_, rfl, ⟨by rw [gi_ui, if_neg (by omega)]; exact hN.1, fun f' hf' => ?_, fun f' hf' g' hg' ha => by rw [gi_ui, if_neg (by omega)]; exact hN.2.2.1 f' (by omega) g' hg' ha⟩, (Same.rf _ _).ui ⟨by omega, by omega⟩⟩
    rw [gi_ui]
    by_cases e : f' = nF S
    · rw [if_pos ⟨rfl, e⟩, e, ef]
    · rw [if_neg (fun z => e z.2)]; exact hN.2.1 f' (by omega)
  | n + 1, f, d, dt, hf, hd, hN, hD => by
    obtain ⟨d, rfl⟩ : ∃ z, d = z + 1 := ⟨d - 1, by omega⟩
    have hF := sok_6 hk
    have hf' : f < nF S := by omega
    have w1 : Same (fun p _ => nbW Z p) dt (ui dt (Z + 1) f (nI (stN S f))) := (Same.rf _ _).ui ⟨by omega, by omega⟩
    rw [L_Nb_find_12, hN.1, if_neg (nI_ge hf' (by omega)), gput_n (j := f) rfl (by omega) (by decide)]
    obtain ⟨d2, z1, z2, z3⟩ := d_findL (κ := κ) hk hZ hf' (fun (v7 : Nat) (v9 : Nat) (v11 : Int32) (v12 : Int32) (s13 : AS) => L_Nb_find_12 κ fndK d v7 v9 v11 (v12 + 1) s13) (nF S) 0 FU (ui dt (Z + 1) f (nI (stN S f))) (by omega) (FUn (by omega)) ⟨by rw [gi_ui, if_neg (by omega)]; exact hN.1, fun g hg => by rw [gi_ui, if_neg (by omega)]; exact hN.2.1 g hg, fun f2 hf2 g' hg' ha => by rw [gi_ui, if_neg (by omega)]; exact hN.2.2.1 f2 hf2 g' hg' ha, fun g' hg' => absurd hg' (Nat.not_lt_zero _)⟩ (by rw [gi_ui, if_pos ⟨rfl, rfl⟩]) (hD.fr w1 (fun p j x1 x2 z => by unfold nbW at z; omega))
    obtain ⟨d3, y1, y2, y3⟩ := d_findO hk hZ n (f + 1) d d2 (by omega) (by omega) z2 ((hD.fr w1 (fun p j x1 x2 z => by unfold nbW at z; omega)).fr z3 (fun p j x1 x2 z => by unfold nbW at z; omega))
    refine ⟨d3, ?_, y2, (w1.tr z3).tr y3⟩
    refine Eq.trans z1 ?_
    show L_Nb_find_12 κ fndK d Z a (nI (stN S (f + 1))) (nI f + 1) d2 = _
    rw [nI_1]
    exact y1
theorem d_find (h : ShD κ dt a S) (hk : SOK S) (hZ : Z + 4 < a ∨ a + 3 < Z) : ∃ dt2, f_Nb_find κ Z a dt = some dt2 ∧ NB dt2 Z S ∧ ShD κ dt2 a S ∧ Same (fun p _ => nbW Z p) dt dt2 := by
  have hF := sok_6 hk
  have ec : f_Sh_facetCount κ a dt = nI (nF S) := by
    show gi dt a 11 = _
    rw [h.2.1.2.2.2.2.2.1]; exact hF.1
  have w1 : Same (fun p _ => nbW Z p) dt (ui dt Z 4 (nI (nF S))) := (Same.rf _ _).ui ⟨by omega, by omega⟩
  obtain ⟨d2, z1, z2, z3⟩ := d_findO (κ := κ) hk hZ (nF S) 0 FU (ui dt Z 4 (nI (nF S))) (by omega) (FUn (by omega)) ⟨by rw [gi_ui, if_pos ⟨rfl, rfl⟩], fun f' hf' => absurd hf' (Nat.not_lt_zero _), fun f' hf' => absurd hf' (Nat.not_lt_zero _), fun g' hg' => absurd hg' (Nat.not_lt_zero _)⟩ (h.fr w1 (fun p j x1 x2 z => by unfold nbW at z; omega))
  rw [find_e, ec]
  exact ⟨d2, z1, z2, h.fr (w1.tr z3) (fun p j x1 x2 z => by unfold nbW at z; omega), w1.tr z3⟩
end Find
