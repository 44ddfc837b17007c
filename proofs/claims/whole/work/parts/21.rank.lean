/-! counting, and ranks -/
theorem cnt_s (P : Nat → Bool) (n : Nat) : cnt P (n + 1) = cnt P n + (if P n then 1 else 0) := rfl
theorem cnt_le (P : Nat → Bool) (n : Nat) : cnt P n ≤ n := by
  induction n with
  | zero => exact Nat.le_refl _
  | succ n ih => unfold cnt; split <;> omega
theorem cnt_congr {P Q : Nat → Bool} {n : Nat} (h : ∀ i, i < n → P i = Q i) : cnt P n = cnt Q n := by
  induction n with
  | zero => rfl
  | succ n ih => unfold cnt; rw [ih (fun i hi => h i (by omega)), h n (by omega)]
theorem cnt_mono {P Q : Nat → Bool} {n : Nat} (h : ∀ i, i < n → P i = true → Q i = true) : cnt P n ≤ cnt Q n := by
  induction n with
  | zero => exact Nat.le_refl _
  | succ n ih =>
    unfold cnt
    have := ih (fun i hi => h i (by omega))
    by_cases hp : P n = true
    · rw [if_pos hp, if_pos (h n (by omega) hp)]; omega
    · rw [if_neg hp]; split <;> omega
theorem cnt_ex {P : Nat → Bool} {n : Nat} (h : cnt P n < n) : ∃ i, i < n ∧ P i = false := by
  induction n with
  | zero => omega
  | succ n ih =>
    unfold cnt at h
    by_cases hp : P n = true
    · rw [if_pos hp] at h
      obtain ⟨i, h1, h2⟩ := ih (by omega)
      exact ⟨i, by omega, h2⟩
    · exact ⟨n, by omega, by simpa using hp⟩
theorem cnt_or {P Q : Nat → Bool} {n : Nat} (h : ∀ i, i < n → ¬ (P i = true ∧ Q i = true)) : cnt (fun i => P i || Q i) n = cnt P n + cnt Q n := by
  induction n with
  | zero => rfl
  | succ n ih =>
    unfold cnt
    rw [ih (fun i hi => h i (by omega))]
    have := h n (by omega)
    cases hp : P n <;> cases hq : Q n <;> simp_all <;> omega
theorem cnt_one {f n : Nat} (h : f < n) : cnt (fun i => decide (i = f)) n = 1 := by
  induction n with
  | zero => omega
  | succ n ih =>
    unfold cnt
    by_cases e : n = f
    · subst e
      have h0 : cnt (fun i => decide (i = n)) n = 0 := by
        have := cnt_mono (P := fun i => decide (i = n)) (Q := fun _ => false) (n := n) (fun i hi h => by simp at h; omega)
        have z : cnt (fun _ => false) n = 0 := by
          clear ih h this
          induction n with
          | zero => rfl
          | succ n ih => unfold cnt; rw [ih]; rfl
        omega
      rw [h0]
      simp
    · rw [ih (by omega)]
      simp [e]
theorem cnt_split (P : Nat → Bool) {f n : Nat} (h : f < n) (hp : P f = true) : cnt P n = cnt (fun i => P i && !decide (i = f)) n + 1 := by
  rw [← cnt_one h, ← cnt_or]
  · refine cnt_congr (fun i _ => ?_)
    by_cases e : i = f
    · subst e; simp [hp]
    · simp [e]
  · intro i _ hh
    simp at hh
    exact hh.1.2 hh.2
section Rank
variable {ar : Nat → Nat}
/-- f comes ahead of g -/
def ahd (ar : Nat → Nat) (f g : Nat) : Bool := decide (ar f < ar g ∨ ar f = ar g ∧ f < g)
theorem ahd_t {f g : Nat} : ahd ar f g = true ↔ (ar f < ar g ∨ ar f = ar g ∧ f < g) := decide_eq_true_iff
theorem ahd_tot {f g : Nat} (h : f ≠ g) : ahd ar f g = true ∨ ahd ar g f = true := by rw [ahd_t, ahd_t]; omega
theorem ahd_min (P : Nat → Bool) {n : Nat} (h : ∃ g, g < n ∧ P g = true) : ∃ g, g < n ∧ P g = true ∧ ∀ x, x < n → P x = true → x ≠ g → ahd ar g x = true := by
  induction n with
  | zero => obtain ⟨g, h1, -⟩ := h; omega
  | succ n ih =>
    by_cases h0 : ∃ g, g < n ∧ P g = true
    · obtain ⟨g, g1, g2, g3⟩ := ih h0
      by_cases hn : P n = true ∧ ahd ar n g = true
      · refine ⟨n, by omega, hn.1, fun x hx hp hne => ?_⟩
        by_cases e : x = g
        · rw [e]; exact hn.2
        · have := g3 x (by omega) hp e
          have h2 := hn.2
          rw [ahd_t] at this h2 ⊢
          omega
      · refine ⟨g, by omega, g2, fun x hx hp hne => ?_⟩
        by_cases e : x = n
        · subst e
          rcases ahd_tot (ar := ar) hne with z | z
          · exact absurd ⟨hp, z⟩ hn
          · exact z
        · exact g3 x (by omega) hp hne
    · obtain ⟨g, g1, g2⟩ := h
      have e : g = n := Classical.byContradiction (fun e => h0 ⟨g, by omega, g2⟩)
      subst e
      exact ⟨g, by omega, g2, fun x hx hp hne => absurd ⟨x, by omega, hp⟩ h0⟩
theorem rank_ex {n : Nat} : ∀ p, p < n → ∃ f, f < n ∧ cnt (fun g => ahd ar g f) n = p := by
  intro p
  induction p with
  | zero =>
    intro hp
    obtain ⟨g, g1, -, g3⟩ := ahd_min (ar := ar) (fun _ => true) (n := n) ⟨0, hp, rfl⟩
    refine ⟨g, g1, ?_⟩
    have h1 := cnt_mono (P := fun x => ahd ar x g) (Q := fun _ => false) (n := n) (fun i hi h => by
      by_cases e : i = g
      · subst e; rw [ahd_t] at h; omega
      · have := g3 i hi rfl e
        rw [ahd_t] at h this; omega)
    have z : cnt (fun _ => false) n = 0 := by
      clear h1 g1 g3 hp
      induction n with
      | zero => rfl
      | succ n ih => unfold cnt; rw [ih]; rfl
    omega
  | succ p ih =>
    intro hp
    obtain ⟨f, f1, f2⟩ := ih (by omega)
    have hc : cnt (fun x => ahd ar x f || decide (x = f)) n = p + 1 := by
      rw [cnt_or, f2, cnt_one f1]
      intro i _ hh
      have h2 := of_decide_eq_true hh.2
      have h1 := hh.1
      subst h2
      rw [ahd_t] at h1
      omega
    obtain ⟨x, x1, x2⟩ := cnt_ex (by rw [hc]; exact hp)
    have x3 : ahd ar f x = true := by
      simp only [Bool.or_eq_false_iff, decide_eq_false_iff_not] at x2
      rcases ahd_tot (ar := ar) x2.2 with z | z
      · rw [z] at x2; exact absurd x2.1 (by decide)
      · exact z
    obtain ⟨g, g1, g2, g3⟩ := ahd_min (ar := ar) (fun x => ahd ar f x) ⟨x, x1, x3⟩
    refine ⟨g, g1, ?_⟩
    rw [← hc]
    refine cnt_congr (fun y hy => ?_)
    rw [Bool.eq_iff_iff]
    simp only [Bool.or_eq_true, decide_eq_true_eq]
    constructor
    · intro h1
      by_cases e : y = f
      · exact Or.inr e
      · left
        rcases ahd_tot (ar := ar) e with z | z
        · exact z
        · by_cases e2 : y = g
          · subst e2; rw [ahd_t] at h1; omega
          · have := g3 y hy z e2
            rw [ahd_t] at h1 this; omega
    · rintro (h1 | rfl)
      · rw [ahd_t] at h1 g2 ⊢; omega
      · exact g2
def les (ar : Nat → Nat) (n f : Nat) : Nat := cnt (fun g => decide (ar g < ar f)) n
def sam (ar : Nat → Nat) (n f : Nat) : Nat := cnt (fun g => decide (ar g = ar f)) n
theorem rank_in {n f : Nat} (h : f < n) : les ar n f ≤ cnt (fun g => ahd ar g f) n ∧ cnt (fun g => ahd ar g f) n < les ar n f + sam ar n f := by
  have e : cnt (fun g => ahd ar g f) n = les ar n f + cnt (fun g => decide (ar g = ar f ∧ g < f)) n := by
    unfold les
    rw [← cnt_or]
    · refine cnt_congr (fun i _ => ?_)
      rw [Bool.eq_iff_iff, ahd_t]
      simp only [Bool.or_eq_true, decide_eq_true_eq]
    · intro i _ hh
      simp only [decide_eq_true_eq] at hh
      omega
  have e2 : cnt (fun g => decide (ar g = ar f ∧ g < f)) n + 1 ≤ sam ar n f := by
    unfold sam
    rw [cnt_split (fun g => decide (ar g = ar f)) h (by simp)]
    have := cnt_mono (P := fun g => decide (ar g = ar f ∧ g < f)) (Q := fun i => decide (ar i = ar f) && !decide (i = f)) (n := n) (fun i _ h => by
      simp only [decide_eq_true_eq] at h
      simp only [Bool.and_eq_true, decide_eq_true_eq, Bool.not_eq_true', decide_eq_false_iff_not]
      exact ⟨h.1, by omega⟩)
    omega
  omega
theorem rank_one {n p f g : Nat} (h1 : les ar n f ≤ p) (h2 : p < les ar n f + sam ar n f) (h3 : les ar n g ≤ p) (h4 : p < les ar n g + sam ar n g) : ar f = ar g := by
  have key : ∀ x y, ar x < ar y → les ar n x + sam ar n x ≤ les ar n y := by
    intro x y hxy
    unfold les sam
    rw [← cnt_or]
    · refine cnt_mono (fun i _ h => ?_)
      simp only [Bool.or_eq_true, decide_eq_true_eq] at h ⊢
      omega
    · intro i _ hh
      simp only [decide_eq_true_eq] at hh
      omega
  rcases Nat.lt_trichotomy (ar f) (ar g) with z | z | z
  · have := key f g z; omega
  · exact z
  · have := key g f z; omega
end Rank
section Sizes
variable {κ : Ko} {dt rt : AS} {a q s : Nat}
def arS (S : Nat → Int32) (f : Nat) : Nat := fN S f 2 * fN S f 3
theorem SR.ar (h : SR κ dt a rt q s) {f : Nat} (hf : f < nF (rw_ rt q s)) : rw_ rt q s (10 + 4 * f + 2) * rw_ rt q s (10 + 4 * f + 3) = nI (arS (rw_ rt q s) f) ∧ arS (rw_ rt q s) f ≤ 40000 := by
  have h2 := h.fn hf 2 (by decide)
  have h3 := h.fn hf 3 (by decide)
  rw [h2.1, h3.1, nI_mul]
  exact ⟨rfl, Nat.mul_le_mul h2.2 h3.2⟩
theorem d_ar (h : SR κ dt a rt q s) {f : Nat} (hf : f < nF (rw_ rt q s)) : f_Sh_areaOf κ a (nI f) dt = some (nI (arS (rw_ rt q s) f)) := by rw [d_area h hf, (h.ar hf).1]
theorem r_ar (h : SR κ dt a rt q s) {f : Nat} (hf : f < nF (rw_ rt q s)) : f_R_areaOf κ q (nI s) (nI f) rt = some (nI (arS (rw_ rt q s) f)) := by rw [r_area h hf, (h.ar hf).1]
theorem d_rankIn (h : SR κ dt a rt q s) {f : Nat} (hf : f < nF (rw_ rt q s)) (x : Int32) (k : Nat → Int32 → Int32 → Int32 → Int32 → Option Int32) : L_Sh_areaOfRank_18 κ dt k FU a x (nI f) 0 0 0 = k a x (nI f) (nI (les (arS (rw_ rt q s)) (nF (rw_ rt q s)) f)) (nI (sam (arS (rw_ rt q s)) (nF (rw_ rt q s)) f)) := by
  have hn := h.nf.2.1
  refine lk1 (fun d (t : Int32 × Int32) i => L_Sh_areaOfRank_18 κ dt k d a x (nI f) t.1 t.2 i) (fun z => z = k a x (nI f) (nI (les (arS (rw_ rt q s)) (nF (rw_ rt q s)) f)) (nI (sam (arS (rw_ rt q s)) (nF (rw_ rt q s)) f))) (fun i t => t = (nI (cnt (fun g => decide (arS (rw_ rt q s) g < arS (rw_ rt q s) f)) i), nI (cnt (fun g => decide (arS (rw_ rt q s) g = arS (rw_ rt q s) f)) i))) (n := nF (rw_ rt q s)) ?_ ?_ (nF (rw_ rt q s)) 0 FU (0, 0) (by omega) (FUn (by omega)) rfl
  · rintro d t rfl
    simp only []
    rw [L_Sh_areaOfRank_18, d_nf h, if_pos (nI_le (Nat.le_refl _) (by omega))]
    rfl
  · rintro d t i hi rfl ih
    have h1 := (h.ar hi).2
    have h2 := (h.ar hf).2
    simp only [L_Sh_areaOfRank_18, d_nf h, if_neg (nI_ge hi (show nF (rw_ rt q s) < 2 ^ 31 by omega)), d_ar h hi, d_ar h hf, bnd_t, nI_1]
    have e1 : nI (cnt (fun g => decide (arS (rw_ rt q s) g < arS (rw_ rt q s) f)) i) + (if nI (arS (rw_ rt q s) f) ≤ nI (arS (rw_ rt q s) i) then (0 : Int32) else 1) = nI (cnt (fun g => decide (arS (rw_ rt q s) g < arS (rw_ rt q s) f)) (i + 1)) := by
      rw [cnt_s]
      by_cases hc : arS (rw_ rt q s) i < arS (rw_ rt q s) f
      · rw [if_neg (nI_ge hc (by omega)), if_pos (decide_eq_true hc), nI_1]
      · rw [if_pos (nI_le (by omega) (by omega)), if_neg (by simpa using hc)]
        exact Int32.add_zero _
    have e2 : (if nI (arS (rw_ rt q s) i) = nI (arS (rw_ rt q s) f) then nI (cnt (fun g => decide (arS (rw_ rt q s) g = arS (rw_ rt q s) f)) i + 1) else nI (cnt (fun g => decide (arS (rw_ rt q s) g = arS (rw_ rt q s) f)) i) + 0) = nI (cnt (fun g => decide (arS (rw_ rt q s) g = arS (rw_ rt q s) f)) (i + 1)) := by
      rw [cnt_s]
      by_cases hc : arS (rw_ rt q s) i = arS (rw_ rt q s) f
      · rw [if_pos (by rw [hc]), if_pos (decide_eq_true hc)]
      · rw [if_neg (fun z => hc ((nI_eq (by omega) (by omega)).mp z)), if_neg (by simpa using hc)]
        exact Int32.add_zero _
    rw [e1, e2]
    exact ih (_, _) rfl
theorem r_rankIn (h : SR κ dt a rt q s) {f : Nat} (hf : f < nF (rw_ rt q s)) (x y : Int32) (k : Nat → Int32 → Int32 → Int32 → Int32 → Int32 → Option Int32) : L_R_sizes_71 κ rt k FU q (nI s) (nI (nF (rw_ rt q s))) y (nI f) 0 0 = k q (nI s) (nI (nF (rw_ rt q s))) y (nI f) (nI (cnt (fun g => ahd (arS (rw_ rt q s)) g f) (nF (rw_ rt q s)))) := by
  have hn := h.nf.2.1
  refine lk1 (fun d (t : Int32) i => L_R_sizes_71 κ rt k d q (nI s) (nI (nF (rw_ rt q s))) y (nI f) t i) (fun z => z = k q (nI s) (nI (nF (rw_ rt q s))) y (nI f) (nI (cnt (fun g => ahd (arS (rw_ rt q s)) g f) (nF (rw_ rt q s))))) (fun i t => t = nI (cnt (fun g => ahd (arS (rw_ rt q s)) g f) i)) (n := nF (rw_ rt q s)) ?_ ?_ (nF (rw_ rt q s)) 0 FU 0 (by omega) (FUn (by omega)) rfl
  · rintro d t rfl
    rw [L_R_sizes_71, if_pos (nI_le (Nat.le_refl _) (by omega))]
  · rintro d t i hi rfl ih
    have h1 := (h.ar hi).2
    have h2 := (h.ar hf).2
    simp only [L_R_sizes_71, if_neg (nI_ge hi (show nF (rw_ rt q s) < 2 ^ 31 by omega)), r_ar h hi, r_ar h hf, bnd_t, jn_e, nI_1]
    simp only [nI_ltI (show arS (rw_ rt q s) i < 2 ^ 31 by omega) (show arS (rw_ rt q s) f < 2 ^ 31 by omega), nI_eq (show arS (rw_ rt q s) i < 2 ^ 31 by omega) (show arS (rw_ rt q s) f < 2 ^ 31 by omega), nI_leI (show f < 2 ^ 31 by omega) (show i < 2 ^ 31 by omega)]
    by_cases hc : ahd (arS (rw_ rt q s)) i f = true
    · have e := ih (nI (cnt (fun g => ahd (arS (rw_ rt q s)) g f) i + 1)) (by rw [cnt_s, if_pos hc])
      rw [ahd_t] at hc
      by_cases c1 : arS (rw_ rt q s) i < arS (rw_ rt q s) f
      · rw [if_pos c1]; exact e
      · rw [if_neg c1, if_pos (by omega), if_neg (by omega)]; exact e
    · have e := ih (nI (cnt (fun g => ahd (arS (rw_ rt q s)) g f) i) + 0) (by rw [cnt_s, if_neg hc]; exact Int32.add_zero _)
      rw [ahd_t] at hc
      rw [if_neg (by omega)]
      by_cases c1 : arS (rw_ rt q s) i = arS (rw_ rt q s) f
      · rw [if_pos c1, if_pos (by omega)]; exact e
      · rw [if_neg c1]; exact e
/-- the area at a place -/
theorem q_rank (h : SR κ dt a rt q s) {p : Nat} (hp : p < nF (rw_ rt q s)) : Both (f_Sh_areaOfRank κ a (nI p) dt) (L_R_sizes_59 κ rt (fun (v25 : Nat) (v27 : Int32) (v28 : Int32) => bnd (f_R_areaOf κ v25 v27 v28 rt) (fun v29 => some v29)) FU q (nI s) (nI (nF (rw_ rt q s))) (nI p) (0 : Int32)) := by
  have hn := h.nf.2.1
  obtain ⟨f0, hf0, hr0⟩ := rank_ex (ar := arS (rw_ rt q s)) p hp
  have hin := rank_in (ar := arS (rw_ rt q s)) hf0
  rw [hr0] at hin
  have hD : ∃ f, f < nF (rw_ rt q s) ∧ f_Sh_areaOfRank κ a (nI p) dt = some (nI (arS (rw_ rt q s) f)) ∧ les (arS (rw_ rt q s)) (nF (rw_ rt q s)) f ≤ p ∧ p < les (arS (rw_ rt q s)) (nF (rw_ rt q s)) f + sam (arS (rw_ rt q s)) (nF (rw_ rt q s)) f := by
    unfold f_Sh_areaOfRank
    refine lk1 (fun d (_ : Unit) i => L_Sh_areaOfRank_2 κ dt (fun (v24 : Nat) (v26 : Int32) => bnd (f_Sh_areaOf κ v24 v26 dt) (fun v27 => some v27)) d a (nI p) i) (fun z => ∃ f, f < nF (rw_ rt q s) ∧ z = some (nI (arS (rw_ rt q s) f)) ∧ les (arS (rw_ rt q s)) (nF (rw_ rt q s)) f ≤ p ∧ p < les (arS (rw_ rt q s)) (nF (rw_ rt q s)) f + sam (arS (rw_ rt q s)) (nF (rw_ rt q s)) f) (fun i _ => i ≤ f0) (n := nF (rw_ rt q s)) ?_ ?_ (nF (rw_ rt q s)) 0 FU () (by omega) (FUn (by omega)) (Nat.zero_le _)
    · intro d _ hI
      exact absurd hI (by omega)
    · intro d _ i hi hI ih
      have b1 : les (arS (rw_ rt q s)) (nF (rw_ rt q s)) i ≤ nF (rw_ rt q s) := cnt_le _ _
      have b2 : sam (arS (rw_ rt q s)) (nF (rw_ rt q s)) i ≤ nF (rw_ rt q s) := cnt_le _ _
      have b3 : 0 < sam (arS (rw_ rt q s)) (nF (rw_ rt q s)) i := by have := rank_in (ar := arS (rw_ rt q s)) hi; omega
      simp only [L_Sh_areaOfRank_2, d_nf h, if_neg (nI_ge hi (show nF (rw_ rt q s) < 2 ^ 31 by omega)), d_rankIn h hi, d_ar h hi, bnd_t, nI_1, wi_t]
      simp only [nI_add]
      rw [show les (arS (rw_ rt q s)) (nF (rw_ rt q s)) i + sam (arS (rw_ rt q s)) (nF (rw_ rt q s)) i = (les (arS (rw_ rt q s)) (nF (rw_ rt q s)) i + sam (arS (rw_ rt q s)) (nF (rw_ rt q s)) i - 1) + 1 by omega, nI_pred]
      simp only [nI_leI (show les (arS (rw_ rt q s)) (nF (rw_ rt q s)) i < 2 ^ 31 by omega) (show p < 2 ^ 31 by omega), nI_leI (show p < 2 ^ 31 by omega) (show les (arS (rw_ rt q s)) (nF (rw_ rt q s)) i + sam (arS (rw_ rt q s)) (nF (rw_ rt q s)) i - 1 < 2 ^ 31 by omega)]
      by_cases hc : les (arS (rw_ rt q s)) (nF (rw_ rt q s)) i ≤ p ∧ p ≤ les (arS (rw_ rt q s)) (nF (rw_ rt q s)) i + sam (arS (rw_ rt q s)) (nF (rw_ rt q s)) i - 1
      · rw [if_neg (fun z => z hc)]
        exact ⟨i, hi, rfl, hc.1, by omega⟩
      · rw [if_pos hc]
        refine ih () ?_
        have : i ≠ f0 := fun e => hc (by rw [e]; omega)
        omega
  have hR : ∃ f, f < nF (rw_ rt q s) ∧ L_R_sizes_59 κ rt (fun (v25 : Nat) (v27 : Int32) (v28 : Int32) => bnd (f_R_areaOf κ v25 v27 v28 rt) (fun v29 => some v29)) FU q (nI s) (nI (nF (rw_ rt q s))) (nI p) (0 : Int32) = some (nI (arS (rw_ rt q s) f)) ∧ cnt (fun g => ahd (arS (rw_ rt q s)) g f) (nF (rw_ rt q s)) = p := by
    refine lk1 (fun d (_ : Unit) i => L_R_sizes_59 κ rt (fun (v25 : Nat) (v27 : Int32) (v28 : Int32) => bnd (f_R_areaOf κ v25 v27 v28 rt) (fun v29 => some v29)) d q (nI s) (nI (nF (rw_ rt q s))) (nI p) i) (fun z => ∃ f, f < nF (rw_ rt q s) ∧ z = some (nI (arS (rw_ rt q s) f)) ∧ cnt (fun g => ahd (arS (rw_ rt q s)) g f) (nF (rw_ rt q s)) = p) (fun i _ => i ≤ f0) (n := nF (rw_ rt q s)) ?_ ?_ (nF (rw_ rt q s)) 0 FU () (by omega) (FUn (by omega)) (Nat.zero_le _)
    · intro d _ hI
      exact absurd hI (by omega)
    · intro d _ i hi hI ih
      have b1 : cnt (fun g => ahd (arS (rw_ rt q s)) g i) (nF (rw_ rt q s)) ≤ nF (rw_ rt q s) := cnt_le _ _
      simp only [L_R_sizes_59, if_neg (nI_ge hi (show nF (rw_ rt q s) < 2 ^ 31 by omega)), r_rankIn h hi 0, r_ar h hi, bnd_t, nI_1]
      simp only [nI_eq (show cnt (fun g => ahd (arS (rw_ rt q s)) g i) (nF (rw_ rt q s)) < 2 ^ 31 by omega) (show p < 2 ^ 31 by omega)]
      by_cases hc : cnt (fun g => ahd (arS (rw_ rt q s)) g i) (nF (rw_ rt q s)) = p
      · rw [if_pos hc]
        exact ⟨i, hi, rfl, hc⟩
      · rw [if_neg hc]
        refine ih () ?_
        have : i ≠ f0 := fun e => hc (by rw [e]; exact hr0)
        omega
  obtain ⟨f, f1, f2, f3, f4⟩ := hD
  obtain ⟨g, g1, g2, g3⟩ := hR
  have hg := rank_in (ar := arS (rw_ rt q s)) g1
  rw [g3] at hg
  rw [f2, g2, rank_one f3 f4 hg.1 hg.2]
  exact Both.mk _
end Sizes
