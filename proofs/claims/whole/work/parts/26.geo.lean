/-! what a cut does to the facets' lie -/
def bq (x y w h X Y W H : Nat) : Bool :=
  decide (((x + w = X ∨ X + W = x) ∧ y < Y + H ∧ Y < y + h) ∨ ((y + h = Y ∨ Y + H = y) ∧ x < X + W ∧ X < x + w))
def b1 (b : Bool) : Nat := if b then 1 else 0
theorem bq_swap (x y w h X Y W H : Nat) : bq x y w h X Y W H = bq y x h w Y X H W := by
  unfold bq
  rw [Bool.eq_iff_iff]
  simp only [decide_eq_true_eq]
  exact Or.comm
theorem bq_sym (x y w h X Y W H : Nat) : bq x y w h X Y W H = bq X Y W H x y w h := by
  unfold bq
  rw [Bool.eq_iff_iff]
  simp only [decide_eq_true_eq]
  omega
/-- over the upper, the lower end of a cut at c -/
def e1q (c y X Y W H : Nat) : Bool := decide (Y + H = y ∧ X < c ∧ c < X + W)
def e2q (c y X Y W : Nat) : Bool := decide (Y = y ∧ X < c ∧ c < X + W)
theorem bq_cut {x y w h X Y W H p : Nat} (p0 : 0 < p) (p1 : p < w) (hh : 0 < h) (hW : 0 < W) (hH : 0 < H) (sep : x + w ≤ X ∨ X + W ≤ x ∨ y + h ≤ Y ∨ Y + H ≤ y) : b1 (bq x y p h X Y W H) + b1 (bq (x + p) y (w - p) h X Y W H) ≤ b1 (bq x y w h X Y W H) + (b1 (e1q (x + p) y X Y W H) + b1 (e2q (x + p) (y + h) X Y W)) := by
  unfold b1 bq e1q e2q
  simp only [decide_eq_true_eq]
  obtain ⟨v, rfl⟩ : ∃ v, w = p + v := ⟨w - p, by omega⟩
  rw [show p + v - p = v by omega]
  by_cases A : ((x + p = X ∨ X + W = x) ∧ y < Y + H ∧ Y < y + h) ∨ ((y + h = Y ∨ Y + H = y) ∧ x < X + W ∧ X < x + p)
  · rw [if_pos A]
    have hB : ((x + (p + v) = X ∨ X + W = x) ∧ y < Y + H ∧ Y < y + h) ∨ ((y + h = Y ∨ Y + H = y) ∧ x < X + W ∧ X < x + (p + v)) := by omega
    rw [if_pos hB]
    by_cases A2 : ((x + p + v = X ∨ X + W = x + p) ∧ y < Y + H ∧ Y < y + h) ∨ ((y + h = Y ∨ Y + H = y) ∧ x + p < X + W ∧ X < x + p + v)
    · rw [if_pos A2]
      by_cases E : Y + H = y ∧ X < x + p ∧ x + p < X + W
      · rw [if_pos E]; omega
      · rw [if_neg E]
        have E2 : Y = y + h ∧ X < x + p ∧ x + p < X + W := by omega
        rw [if_pos E2]; omega
    · rw [if_neg A2]; omega
  · rw [if_neg A]
    by_cases A2 : ((x + p + v = X ∨ X + W = x + p) ∧ y < Y + H ∧ Y < y + h) ∨ ((y + h = Y ∨ Y + H = y) ∧ x + p < X + W ∧ X < x + p + v)
    · have hB : ((x + (p + v) = X ∨ X + W = x) ∧ y < Y + H ∧ Y < y + h) ∨ ((y + h = Y ∨ Y + H = y) ∧ x < X + W ∧ X < x + (p + v)) := by omega
      rw [if_pos hB, if_pos A2]; omega
    · rw [if_neg A2]; omega
theorem cnt_one_le {P : Nat → Bool} {n : Nat} (h : ∀ i j, i < n → j < n → P i = true → P j = true → i = j) : cnt P n ≤ 1 := by
  induction n with
  | zero => exact Nat.zero_le _
  | succ n ih =>
    rw [cnt_s]
    by_cases hp : P n = true
    · have : cnt P n ≤ cnt (fun _ => false) n := cnt_mono (fun i hi hpi => by have := h i n (by omega) (by omega) hpi hp; omega)
      have z : cnt (fun _ => false) n = 0 := by
        clear this ih h hp
        induction n with
        | zero => rfl
        | succ n ih => rw [cnt_s, ih]; rfl
      rw [if_pos hp]; omega
    · rw [if_neg hp]
      have := ih (fun i j hi hj => h i j (by omega) (by omega))
      omega
theorem cnt_add_le {P Q R T U : Nat → Bool} {n : Nat} (h : ∀ i, i < n → b1 (P i) + b1 (Q i) ≤ b1 (R i) + (b1 (T i) + b1 (U i))) : cnt P n + cnt Q n ≤ cnt R n + (cnt T n + cnt U n) := by
  induction n with
  | zero => exact Nat.le_refl _
  | succ n ih =>
    have h1 := ih (fun i hi => h i (by omega))
    have h2 := h n (by omega)
    unfold b1 at h2
    simp only [cnt_s]
    omega
/-- the pairs without f, and those of f -/
theorem cnt2_out (b : Nat → Nat → Bool) (hb : ∀ i j, b i j = b j i) (f n : Nat) (hf : f < n) : cnt2 b n = cnt2 (fun i j => b i j && !decide (i = f) && !decide (j = f)) n + cnt (fun j => b f j && !decide (j = f)) n := by
  have step : ∀ m, m ≤ f → cnt2 b m = cnt2 (fun i j => b i j && !decide (i = f) && !decide (j = f)) m := by
    intro m
    induction m with
    | zero => intro _; rfl
    | succ m ih =>
      intro hm
      show cnt2 b m + cnt (b m) m = cnt2 _ m + cnt _ m
      rw [ih (by omega)]
      congr 1
      refine cnt_congr (fun i hi => ?_)
      simp [show m ≠ f by omega, show i ≠ f by omega]
  obtain ⟨k, rfl⟩ : ∃ k, n = f + 1 + k := ⟨n - f - 1, by omega⟩
  clear hf
  induction k with
  | zero =>
    show cnt2 b f + cnt (b f) f = (cnt2 _ f + cnt _ f) + cnt _ (f + 1)
    rw [step f (Nat.le_refl _), cnt_s]
    have z : cnt (fun j => b f j && !decide (f = f) && !decide (j = f)) f = 0 := by
      have h0 : cnt (fun j => b f j && !decide (f = f) && !decide (j = f)) f = cnt (fun _ => false) f := cnt_congr (fun i _ => by simp)
      rw [h0]
      clear h0
      generalize f = m
      induction m with
      | zero => rfl
      | succ n ih => rw [cnt_s, ih]; rfl
    rw [z, if_neg (by simp)]
    have e : cnt (b f) f = cnt (fun j => b f j && !decide (j = f)) f := cnt_congr (fun i hi => by simp [show i ≠ f by omega])
    omega
  | succ k ih =>
    have hne : f + 1 + k ≠ f := by omega
    have hlt : f < f + 1 + k := by omega
    rw [show f + 1 + (k + 1) = (f + 1 + k) + 1 from rfl]
    generalize f + 1 + k = m at ih hne hlt ⊢
    show cnt2 b m + cnt (b m) m = (cnt2 (fun i j => b i j && !decide (i = f) && !decide (j = f)) m + cnt (fun j => b m j && !decide (m = f) && !decide (j = f)) m) + cnt (fun j => b f j && !decide (j = f)) (m + 1)
    rw [ih, cnt_s]
    by_cases c : b f m = true
    · have e : cnt (b m) m = cnt (fun i => b m i && !decide (m = f) && !decide (i = f)) m + 1 := by
        rw [cnt_split (b m) (f := f) hlt (by rw [hb]; exact c)]
        congr 1
        exact cnt_congr (fun i _ => by simp [hne])
      rw [e, if_pos (by simp [c, hne])]
      omega
    · have e : cnt (b m) m = cnt (fun i => b m i && !decide (m = f) && !decide (i = f)) m := by
        refine cnt_congr (fun i _ => ?_)
        by_cases ei : i = f
        · subst ei
          have c' : b m i = false := by rw [hb]; simpa using c
          simp [c']
        · simp [ei, hne]
      rw [e, if_neg (by simp [c])]
      omega
/-- rectangles, one cut, the other part put behind: the pairs grow by three at most -/
theorem pairs_cut (x y w h : Nat → Nat) (x' y' w' h' : Nat → Nat) {n f p : Nat} (hf : f < n) (p0 : 0 < p) (p1 : p < w f) (pos : ∀ g, g < n → 0 < w g ∧ 0 < h g)
    (sep : ∀ i j, i < n → j < n → i ≠ j → x i + w i ≤ x j ∨ x j + w j ≤ x i ∨ y i + h i ≤ y j ∨ y j + h j ≤ y i)
    (old : ∀ g, g < n → g ≠ f → x' g = x g ∧ y' g = y g ∧ w' g = w g ∧ h' g = h g) (hf' : x' f = x f ∧ y' f = y f ∧ w' f = p ∧ h' f = h f) (hn' : x' n = x f + p ∧ y' n = y f ∧ w' n = w f - p ∧ h' n = h f) :
    cnt2 (fun i j => bq (x' i) (y' i) (w' i) (h' i) (x' j) (y' j) (w' j) (h' j)) (n + 1) ≤ cnt2 (fun i j => bq (x i) (y i) (w i) (h i) (x j) (y j) (w j) (h j)) n + 3 := by
  show cnt2 (fun i j => bq (x' i) (y' i) (w' i) (h' i) (x' j) (y' j) (w' j) (h' j)) n + cnt (fun j => bq (x' n) (y' n) (w' n) (h' n) (x' j) (y' j) (w' j) (h' j)) n ≤ _
  rw [cnt2_out (fun i j => bq (x' i) (y' i) (w' i) (h' i) (x' j) (y' j) (w' j) (h' j)) (fun i j => bq_sym _ _ _ _ _ _ _ _) f n hf, cnt2_out (fun i j => bq (x i) (y i) (w i) (h i) (x j) (y j) (w j) (h j)) (fun i j => bq_sym _ _ _ _ _ _ _ _) f n hf]
  have e0 : cnt2 (fun i j => bq (x' i) (y' i) (w' i) (h' i) (x' j) (y' j) (w' j) (h' j) && !decide (i = f) && !decide (j = f)) n = cnt2 (fun i j => bq (x i) (y i) (w i) (h i) (x j) (y j) (w j) (h j) && !decide (i = f) && !decide (j = f)) n := by
    have : ∀ m, m ≤ n → cnt2 (fun i j => bq (x' i) (y' i) (w' i) (h' i) (x' j) (y' j) (w' j) (h' j) && !decide (i = f) && !decide (j = f)) m = cnt2 (fun i j => bq (x i) (y i) (w i) (h i) (x j) (y j) (w j) (h j) && !decide (i = f) && !decide (j = f)) m := by
      intro m
      induction m with
      | zero => intro _; rfl
      | succ m ih =>
        intro hm
        show cnt2 _ m + cnt _ m = cnt2 _ m + cnt _ m
        rw [ih (by omega)]
        congr 1
        refine cnt_congr (fun i hi => ?_)
        by_cases c1 : m = f
        · simp [c1]
        · by_cases c2 : i = f
          · simp [c2]
          · obtain ⟨a1, a2, a3, a4⟩ := old m (by omega) c1
            obtain ⟨a5, a6, a7, a8⟩ := old i (by omega) c2
            simp only [a1, a2, a3, a4, a5, a6, a7, a8]
    exact this n (Nat.le_refl _)
  have e3 : cnt (fun j => bq (x' n) (y' n) (w' n) (h' n) (x' j) (y' j) (w' j) (h' j)) n ≤ cnt (fun j => bq (x f + p) (y f) (w f - p) (h f) (x j) (y j) (w j) (h j) && !decide (j = f)) n + 1 := by
    rw [← cnt_one hf, ← cnt_or]
    · refine cnt_mono (fun i hi hb => ?_)
      by_cases c : i = f
      · simp [c]
      · obtain ⟨a5, a6, a7, a8⟩ := old i hi c
        rw [hn'.1, hn'.2.1, hn'.2.2.1, hn'.2.2.2, a5, a6, a7, a8] at hb
        simp [hb, c]
    · intro i _ hh
      simp at hh
      exact hh.1.2 hh.2
  have e2 : cnt (fun j => bq (x' f) (y' f) (w' f) (h' f) (x' j) (y' j) (w' j) (h' j) && !decide (j = f)) n = cnt (fun j => bq (x f) (y f) p (h f) (x j) (y j) (w j) (h j) && !decide (j = f)) n := by
    refine cnt_congr (fun i hi => ?_)
    by_cases c : i = f
    · simp [c]
    · obtain ⟨a5, a6, a7, a8⟩ := old i hi c
      rw [hf'.1, hf'.2.1, hf'.2.2.1, hf'.2.2.2, a5, a6, a7, a8]
  have key : cnt (fun j => bq (x f) (y f) p (h f) (x j) (y j) (w j) (h j) && !decide (j = f)) n + cnt (fun j => bq (x f + p) (y f) (w f - p) (h f) (x j) (y j) (w j) (h j) && !decide (j = f)) n ≤ cnt (fun j => bq (x f) (y f) (w f) (h f) (x j) (y j) (w j) (h j) && !decide (j = f)) n + (cnt (fun j => e1q (x f + p) (y f) (x j) (y j) (w j) (h j)) n + cnt (fun j => e2q (x f + p) (y f + h f) (x j) (y j) (w j)) n) := by
    refine cnt_add_le (fun i hi => ?_)
    by_cases c : i = f
    · simp [c, b1]
    · have := bq_cut (x := x f) (y := y f) (w := w f) (h := h f) (X := x i) (Y := y i) (W := w i) (H := h i) (p := p) p0 p1 (pos f hf).2 (pos i hi).1 (pos i hi).2 (sep f i hf hi (fun z => c z.symm))
      simpa [c] using this
  have t1 : cnt (fun j => e1q (x f + p) (y f) (x j) (y j) (w j) (h j)) n ≤ 1 := by
    refine cnt_one_le (fun i j hi hj h1 h2 => ?_)
    unfold e1q at h1 h2
    simp only [decide_eq_true_eq] at h1 h2
    refine Classical.byContradiction (fun c => ?_)
    have s1 := sep i j hi hj c
    have := pos i hi
    have := pos j hj
    omega
  have t2 : cnt (fun j => e2q (x f + p) (y f + h f) (x j) (y j) (w j)) n ≤ 1 := by
    refine cnt_one_le (fun i j hi hj h1 h2 => ?_)
    unfold e2q at h1 h2
    simp only [decide_eq_true_eq] at h1 h2
    refine Classical.byContradiction (fun c => ?_)
    have s1 := sep i j hi hj c
    have := pos i hi
    have := pos j hj
    omega
  rw [e0, e2]
  omega
