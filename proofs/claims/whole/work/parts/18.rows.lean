/-! both classes' sheets: the reference's row, the class's own, place by place -/
def Both {α : Type} (p q : Option α) : Prop := ∃ v, p = some v ∧ q = some v
theorem Both.mk {α : Type} (v : α) : Both (some v) (some v) := ⟨v, rfl, rfl⟩
/-- two loops side by side -/
theorem lk2 {σ β γ : Type} (L1 : Nat → σ → Int32 → β) (L2 : Nat → σ → Int32 → γ) (Post : β → γ → Prop) (I : Nat → σ → Prop) {n : Nat} (hz : ∀ d s, I n s → Post (L1 (d + 1) s (nI n)) (L2 (d + 1) s (nI n))) (hs : ∀ d s i, i < n → I i s → (∀ s', I (i + 1) s' → Post (L1 d s' (nI (i + 1))) (L2 d s' (nI (i + 1)))) → Post (L1 (d + 1) s (nI i)) (L2 (d + 1) s (nI i))) : ∀ j i d s, i + j = n → j < d → I i s → Post (L1 d s (nI i)) (L2 d s (nI i)) := by
  intro j
  induction j with
  | zero =>
    intro i d s h1 h2 h3
    obtain ⟨d, rfl⟩ : ∃ e, d = e + 1 := ⟨d - 1, by omega⟩
    obtain rfl : i = n := by omega
    exact hz d s h3
  | succ j ih =>
    intro i d s h1 h2 h3
    obtain ⟨d, rfl⟩ : ∃ e, d = e + 1 := ⟨d - 1, by omega⟩
    exact hs d s i (by omega) h3 (fun s' h4 => ih (i + 1) d s' (by omega) (by omega) h4)
theorem lk1 {σ β : Type} (L1 : Nat → σ → Int32 → β) (Post : β → Prop) (I : Nat → σ → Prop) {n : Nat} (hz : ∀ d s, I n s → Post (L1 (d + 1) s (nI n))) (hs : ∀ d s i, i < n → I i s → (∀ s', I (i + 1) s' → Post (L1 d s' (nI (i + 1)))) → Post (L1 (d + 1) s (nI i))) : ∀ j i d s, i + j = n → j < d → I i s → Post (L1 d s (nI i)) :=
  fun j i d s h1 h2 h3 => lk2 L1 L1 (fun p _ => Post p) I hz hs j i d s h1 h2 h3
theorem FUn {n : Nat} (h : n < 90000) : n < FU := by unfold FU; omega
theorem jn_e {α β : Type} (b : α) (f : α → β) : jn b f = f b := rfl
theorem nI_mul (a b : Nat) : nI a * nI b = nI (a * b) := (Int32.ofNat_mul a b).symm
theorem ix4 (f p : Nat) : nI f * 4 + nI p = nI (4 * f + p) := by
  rw [show (4 : Int32) = nI 4 from rfl, nI_mul, nI_add, Nat.mul_comm]
theorem ix7 (f p : Nat) : nI f * 7 + nI p = nI (7 * f + p) := by
  rw [show (7 : Int32) = nI 7 from rfl, nI_mul, nI_add, Nat.mul_comm]
theorem ixS (s k : Nat) : (3680 : Int32) * nI s + nI k = nI (3680 * s + k) := by
  rw [show (3680 : Int32) = nI 3680 from rfl, nI_mul, nI_add]
theorem ixF (s f p : Nat) : (3680 : Int32) * nI s + 10 + (4 : Int32) * nI f + nI p = nI (3680 * s + (10 + 4 * f + p)) := by
  rw [show (3680 : Int32) = nI 3680 from rfl, show (10 : Int32) = nI 10 from rfl, show (4 : Int32) = nI 4 from rfl, nI_mul, nI_mul, nI_add, nI_add, nI_add]
  congr 1
  omega
theorem ixR (s f p : Nat) : (3680 : Int32) * nI s + 810 + (7 : Int32) * nI f + nI p = nI (3680 * s + (810 + 7 * f + p)) := by
  rw [show (3680 : Int32) = nI 3680 from rfl, show (810 : Int32) = nI 810 from rfl, show (7 : Int32) = nI 7 from rfl, nI_mul, nI_mul, nI_add, nI_add, nI_add]
  congr 1
  omega
theorem ixT (s p : Nat) : (3680 : Int32) * nI s + 3610 + nI p = nI (3680 * s + (3610 + p)) := by
  rw [show (3680 : Int32) = nI 3680 from rfl, show (3610 : Int32) = nI 3610 from rfl, nI_mul, nI_add, nI_add]
  congr 1
  omega
/-- the reference's row of a sheet -/
def rw_ (st : AS) (q s k : Nat) : Int32 := gi st (q + 14) (3680 * s + k)
def nF (S : Nat → Int32) : Nat := (S 6).toNatClampNeg
def nR (S : Nat → Int32) : Nat := (S 7).toNatClampNeg
def rD (S : Nat → Int32) : Nat := (S 5).toNatClampNeg
def LA (κ : Ko) (l : Nat) : Nat := kB (kt κ) + 70 + 27 * l
theorem LA_ly {κ : Ko} {l : Nat} (hl : l < 6) : ly κ (LA κ l) = (3, 7) := by
  unfold ly lay LA
  rw [if_pos (by omega), show kB (kt κ) + 70 + 27 * l - kB (kt κ) = 70 + 27 * l by omega]
  exact (show ∀ l, l < 6 → layL.getD (70 + 27 * l) (999, 0) = (3, 7) by decide +kernel) l hl
/-- the class's sheet at a shows the row S -/
def ShD (κ : Ko) (st : AS) (a : Nat) (S : Nat → Int32) : Prop :=
  ly κ a = (8, 14) ∧ (gi st a 8 = S 0 ∧ gi st a 9 = S 1 ∧ True ∧ gl st a 13 = (S 4).toInt64 ∧ gi st a 10 = S 5 ∧ gi st a 11 = S 6 ∧ gi st a 12 = S 7 ∧ gi st a 5 = S 8 ∧ gi st a 6 = S 9) ∧
  gr st a 4 = some (LA κ (S 2).toNatClampNeg) ∧ (∀ f, f < nF S → ∀ p, p < 4 → gi st (a + 1) (4 * f + p) = S (10 + 4 * f + p)) ∧
  (∀ r, r < nR S → ∀ p, p < 7 → gi st (a + 2) (7 * r + p) = S (810 + 7 * r + p)) ∧ (∀ k, k ≤ rD S → 0 < k → gi st (a + 3) k = S (3610 + k))
/-- a number from lo to hi -/
def isN (x : Int32) (lo hi : Nat) : Prop := ∃ n, x = nI n ∧ lo ≤ n ∧ n ≤ hi
theorem isN.cl {x : Int32} {lo hi : Nat} (h : isN x lo hi) (hh : hi < 2 ^ 31) : x = nI x.toNatClampNeg ∧ lo ≤ x.toNatClampNeg ∧ x.toNatClampNeg ≤ hi := by
  obtain ⟨n, rfl, h1, h2⟩ := h
  rw [nI_clamp (by omega)]
  exact ⟨rfl, h1, h2⟩
/-- how many below n -/
def cnt (P : Nat → Bool) : Nat → Nat
  | 0 => 0
  | n + 1 => cnt P n + (if P n then 1 else 0)
def cnt2 (P : Nat → Nat → Bool) : Nat → Nat
  | 0 => 0
  | n + 1 => cnt2 P n + cnt (P n) n
def sN (S : Nat → Int32) (k : Nat) : Nat := (S k).toNatClampNeg
def fN (S : Nat → Int32) (f p : Nat) : Nat := (S (10 + 4 * f + p)).toNatClampNeg
def rN (S : Nat → Int32) (r p : Nat) : Nat := (S (810 + 7 * r + p)).toNatClampNeg
/-- two facets beside one another -/
def bsd (S : Nat → Int32) (f g : Nat) : Bool :=
  decide (((fN S f 0 + fN S f 2 = fN S g 0 ∨ fN S g 0 + fN S g 2 = fN S f 0) ∧ fN S f 1 < fN S g 1 + fN S g 3 ∧ fN S g 1 < fN S f 1 + fN S f 3) ∨
    ((fN S f 1 + fN S f 3 = fN S g 1 ∨ fN S g 1 + fN S g 3 = fN S f 1) ∧ fN S f 0 < fN S g 0 + fN S g 2 ∧ fN S g 0 < fN S f 0 + fN S f 2))
/-- the facets lie in the sheet, none over another, and few beside one another -/
def Geo (S : Nat → Int32) : Prop :=
  (∀ f, f < nF S → fN S f 0 + fN S f 2 ≤ sN S 0 ∧ fN S f 1 + fN S f 3 ≤ sN S 1) ∧
  (∀ f g, f < nF S → g < nF S → f ≠ g → fN S f 0 + fN S f 2 ≤ fN S g 0 ∨ fN S g 0 + fN S g 2 ≤ fN S f 0 ∨ fN S f 1 + fN S f 3 ≤ fN S g 1 ∨ fN S g 1 + fN S g 3 ≤ fN S f 1) ∧
  cnt2 (bsd S) (nF S) ≤ 3 * (nF S - 1)
/-- what is so of every sheet's row -/
def SOK (S : Nat → Int32) : Prop :=
  (isN (S 0) 2 200 ∧ isN (S 1) 2 200 ∧ isN (S 2) 0 5 ∧ isN (S 3) 0 2147483647 ∧ isN (S 4) 0 2147483647 ∧ isN (S 5) 0 60 ∧ isN (S 6) 1 200 ∧ isN (S 7) 0 400 ∧ isN (S 8) 2 200 ∧ isN (S 9) 2 200) ∧
  (∀ f, f < nF S → isN (S (10 + 4 * f + 0)) 0 199 ∧ isN (S (10 + 4 * f + 1)) 0 199 ∧ isN (S (10 + 4 * f + 2)) 1 200 ∧ isN (S (10 + 4 * f + 3)) 1 200) ∧
  (∀ r, r < nR S → isN (S (810 + 7 * r + 0)) 0 1 ∧ isN (S (810 + 7 * r + 1)) 1 199 ∧ isN (S (810 + 7 * r + 2)) 0 199 ∧ isN (S (810 + 7 * r + 3)) 1 200 ∧ isN (S (810 + 7 * r + 4)) 0 60 ∧ isN (S (810 + 7 * r + 5)) 0 1 ∧ isN (S (810 + 7 * r + 6)) 1 61 ∧ rN S r 2 < rN S r 3 ∧ rN S r 1 < sN S (rN S r 0) ∧ rN S r 3 ≤ sN S (1 - rN S r 0)) ∧ Geo S
/-- the class's sheet at a (in dt) and the reference's sheet s of the model at q (in rt) are the same -/
def SR (κ : Ko) (dt : AS) (a : Nat) (rt : AS) (q s : Nat) : Prop := ShD κ dt a (rw_ rt q s) ∧ SOK (rw_ rt q s) ∧ s < 7
theorem f_Sh_ridgePart_eq (κ : Ko) (a : Nat) (x y : Int32) (st : AS) : f_Sh_ridgePart κ a x y st = some (gat (gi st (a + 2)) 2800 (x * 7 + y)) := by
  unfold f_Sh_ridgePart gat
  rw [jn_e]
  by_cases h1 : x * 7 + y < 0
  · rw [if_pos h1, if_pos h1]
  · rw [if_neg h1, if_neg h1]
    by_cases h2 : 2800 ≤ x * 7 + y
    · rw [if_pos h2, if_pos (show nI 2800 ≤ x * 7 + y from h2)]
    · rw [if_neg h2, if_neg (show ¬ nI 2800 ≤ x * 7 + y from h2), grd_t (vp_of h1 h2 (by decide))]
theorem f_Sh_facetPart_eq (κ : Ko) (a : Nat) (x y : Int32) (st : AS) : f_Sh_facetPart κ a x y st = some (gat (gi st (a + 1)) 800 (x * 4 + y)) := by
  unfold f_Sh_facetPart gat
  rw [jn_e]
  by_cases h1 : x * 4 + y < 0
  · rw [if_pos h1, if_pos h1]
  · rw [if_neg h1, if_neg h1]
    by_cases h2 : 800 ≤ x * 4 + y
    · rw [if_pos h2, if_pos (show nI 800 ≤ x * 4 + y from h2)]
    · rw [if_neg h2, if_neg (show ¬ nI 800 ≤ x * 4 + y from h2), grd_t (vp_of h1 h2 (by decide))]
theorem f_Sh_putRidge_eq (κ : Ko) (a : Nat) (x y v : Int32) (st : AS) : f_Sh_putRidge κ a x y v st = some (gput st (a + 2) 2800 (x * 7 + y) v) := by
  unfold f_Sh_putRidge gput
  rw [jn_e]
  by_cases h1 : x * 7 + y < 0
  · rw [if_pos h1, if_pos h1]
  · rw [if_neg h1, if_neg h1]
    by_cases h2 : 2800 ≤ x * 7 + y
    · rw [if_pos h2, if_pos (show nI 2800 ≤ x * 7 + y from h2)]
    · rw [if_neg h2, if_neg (show ¬ nI 2800 ≤ x * 7 + y from h2), grd_t (vp_of h1 h2 (by decide))]
theorem f_Sh_putFacet_eq (κ : Ko) (a : Nat) (x y v : Int32) (st : AS) : f_Sh_putFacet κ a x y v st = some (gput st (a + 1) 800 (x * 4 + y) v) := by
  unfold f_Sh_putFacet gput
  rw [jn_e]
  by_cases h1 : x * 4 + y < 0
  · rw [if_pos h1, if_pos h1]
  · rw [if_neg h1, if_neg h1]
    by_cases h2 : 800 ≤ x * 4 + y
    · rw [if_pos h2, if_pos (show nI 800 ≤ x * 4 + y from h2)]
    · rw [if_neg h2, if_neg (show ¬ nI 800 ≤ x * 4 + y from h2), grd_t (vp_of h1 h2 (by decide))]
section Acc
variable {κ : Ko} {dt rt : AS} {a q s : Nat}
theorem SR.nr (h : SR κ dt a rt q s) : rw_ rt q s 7 = nI (nR (rw_ rt q s)) ∧ nR (rw_ rt q s) ≤ 400 :=
  have := (h.2.1.1.2.2.2.2.2.2.2.1).cl (by decide); ⟨this.1, this.2.2⟩
theorem SR.nf (h : SR κ dt a rt q s) : rw_ rt q s 6 = nI (nF (rw_ rt q s)) ∧ nF (rw_ rt q s) ≤ 200 ∧ 1 ≤ nF (rw_ rt q s) :=
  have := (h.2.1.1.2.2.2.2.2.2.1).cl (by decide); ⟨this.1, this.2.2, this.2.1⟩
theorem SR.rd (h : SR κ dt a rt q s) : rw_ rt q s 5 = nI (rD (rw_ rt q s)) ∧ rD (rw_ rt q s) ≤ 60 :=
  have := (h.2.1.1.2.2.2.2.2.1).cl (by decide); ⟨this.1, this.2.2⟩
theorem SR.law (h : SR κ dt a rt q s) : rw_ rt q s 2 = nI (rw_ rt q s 2).toNatClampNeg ∧ (rw_ rt q s 2).toNatClampNeg ≤ 5 :=
  have := (h.2.1.1.2.2.1).cl (by decide); ⟨this.1, this.2.2⟩
theorem d_nr (h : SR κ dt a rt q s) : gi dt a 12 = nI (nR (rw_ rt q s)) := by rw [h.1.2.1.2.2.2.2.2.2.1]; exact h.nr.1
theorem d_nf (h : SR κ dt a rt q s) : gi dt a 11 = nI (nF (rw_ rt q s)) := by rw [h.1.2.1.2.2.2.2.2.1]; exact h.nf.1
theorem d_rd (h : SR κ dt a rt q s) : gi dt a 10 = nI (rD (rw_ rt q s)) := by rw [h.1.2.1.2.2.2.2.1]; exact h.rd.1
theorem d_ridge (h : SR κ dt a rt q s) {r p : Nat} {y : Int32} (hr : r < nR (rw_ rt q s)) (hp : p < 7) (hy : y = nI p) : f_Sh_ridgePart κ a (nI r) y dt = some (rw_ rt q s (810 + 7 * r + p)) := by
  have := h.nr.2
  rw [f_Sh_ridgePart_eq, hy, ix7, gat_n rfl (by omega) (by decide), h.1.2.2.2.2.1 r hr p hp]
theorem d_facet (h : SR κ dt a rt q s) {f p : Nat} {y : Int32} (hf : f < nF (rw_ rt q s)) (hp : p < 4) (hy : y = nI p) : f_Sh_facetPart κ a (nI f) y dt = some (rw_ rt q s (10 + 4 * f + p)) := by
  have := h.nf.2.1
  rw [f_Sh_facetPart_eq, hy, ix4, gat_n rfl (by omega) (by decide), h.1.2.2.2.1 f hf p hp]
theorem r_sheet (h : s < 7) {k : Nat} {y : Int32} (hk : k < 3680) (hy : y = nI k) : f_R_sheetOf κ q (nI s) y rt = some (rw_ rt q s k) := by
  unfold f_R_sheetOf rw_
  rw [hy, ixS, grd_t (vp_in_nI (by omega) (by decide)), nI_clamp (by omega)]
theorem r_facet (h : s < 7) {f p : Nat} {y : Int32} (hf : f < 200) (hp : p < 4) (hy : y = nI p) : f_R_facetOf κ q (nI s) (nI f) y rt = some (rw_ rt q s (10 + 4 * f + p)) := by
  unfold f_R_facetOf rw_
  rw [hy, ixF, grd_t (vp_in_nI (by omega) (by decide)), nI_clamp (by omega)]
theorem r_ridge (h : s < 7) {f p : Nat} {y : Int32} (hf : f < 400) (hp : p < 7) (hy : y = nI p) : f_R_ridgeOf κ q (nI s) (nI f) y rt = some (rw_ rt q s (810 + 7 * f + p)) := by
  unfold f_R_ridgeOf rw_
  rw [hy, ixR, grd_t (vp_in_nI (by omega) (by decide)), nI_clamp (by omega)]
theorem dr0 (h : SR κ dt a rt q s) {r : Nat} (hr : r < nR (rw_ rt q s)) : f_Sh_ridgePart κ a (nI r) 0 dt = some (rw_ rt q s (810 + 7 * r + 0)) := d_ridge h hr (by decide) rfl
theorem rr0 (h : SR κ dt a rt q s) {r : Nat} (hr : r < nR (rw_ rt q s)) : f_R_ridgeOf κ q (nI s) (nI r) 0 rt = some (rw_ rt q s (810 + 7 * r + 0)) := r_ridge h.2.2 (Nat.lt_of_lt_of_le hr h.nr.2) (by decide) rfl
theorem dr1 (h : SR κ dt a rt q s) {r : Nat} (hr : r < nR (rw_ rt q s)) : f_Sh_ridgePart κ a (nI r) 1 dt = some (rw_ rt q s (810 + 7 * r + 1)) := d_ridge h hr (by decide) rfl
theorem rr1 (h : SR κ dt a rt q s) {r : Nat} (hr : r < nR (rw_ rt q s)) : f_R_ridgeOf κ q (nI s) (nI r) 1 rt = some (rw_ rt q s (810 + 7 * r + 1)) := r_ridge h.2.2 (Nat.lt_of_lt_of_le hr h.nr.2) (by decide) rfl
theorem dr2 (h : SR κ dt a rt q s) {r : Nat} (hr : r < nR (rw_ rt q s)) : f_Sh_ridgePart κ a (nI r) 2 dt = some (rw_ rt q s (810 + 7 * r + 2)) := d_ridge h hr (by decide) rfl
theorem rr2 (h : SR κ dt a rt q s) {r : Nat} (hr : r < nR (rw_ rt q s)) : f_R_ridgeOf κ q (nI s) (nI r) 2 rt = some (rw_ rt q s (810 + 7 * r + 2)) := r_ridge h.2.2 (Nat.lt_of_lt_of_le hr h.nr.2) (by decide) rfl
theorem dr3 (h : SR κ dt a rt q s) {r : Nat} (hr : r < nR (rw_ rt q s)) : f_Sh_ridgePart κ a (nI r) 3 dt = some (rw_ rt q s (810 + 7 * r + 3)) := d_ridge h hr (by decide) rfl
theorem rr3 (h : SR κ dt a rt q s) {r : Nat} (hr : r < nR (rw_ rt q s)) : f_R_ridgeOf κ q (nI s) (nI r) 3 rt = some (rw_ rt q s (810 + 7 * r + 3)) := r_ridge h.2.2 (Nat.lt_of_lt_of_le hr h.nr.2) (by decide) rfl
theorem dr4 (h : SR κ dt a rt q s) {r : Nat} (hr : r < nR (rw_ rt q s)) : f_Sh_ridgePart κ a (nI r) 4 dt = some (rw_ rt q s (810 + 7 * r + 4)) := d_ridge h hr (by decide) rfl
theorem rr4 (h : SR κ dt a rt q s) {r : Nat} (hr : r < nR (rw_ rt q s)) : f_R_ridgeOf κ q (nI s) (nI r) 4 rt = some (rw_ rt q s (810 + 7 * r + 4)) := r_ridge h.2.2 (Nat.lt_of_lt_of_le hr h.nr.2) (by decide) rfl
theorem dr5 (h : SR κ dt a rt q s) {r : Nat} (hr : r < nR (rw_ rt q s)) : f_Sh_ridgePart κ a (nI r) 5 dt = some (rw_ rt q s (810 + 7 * r + 5)) := d_ridge h hr (by decide) rfl
theorem rr5 (h : SR κ dt a rt q s) {r : Nat} (hr : r < nR (rw_ rt q s)) : f_R_ridgeOf κ q (nI s) (nI r) 5 rt = some (rw_ rt q s (810 + 7 * r + 5)) := r_ridge h.2.2 (Nat.lt_of_lt_of_le hr h.nr.2) (by decide) rfl
theorem dr6 (h : SR κ dt a rt q s) {r : Nat} (hr : r < nR (rw_ rt q s)) : f_Sh_ridgePart κ a (nI r) 6 dt = some (rw_ rt q s (810 + 7 * r + 6)) := d_ridge h hr (by decide) rfl
theorem rr6 (h : SR κ dt a rt q s) {r : Nat} (hr : r < nR (rw_ rt q s)) : f_R_ridgeOf κ q (nI s) (nI r) 6 rt = some (rw_ rt q s (810 + 7 * r + 6)) := r_ridge h.2.2 (Nat.lt_of_lt_of_le hr h.nr.2) (by decide) rfl
theorem df0 (h : SR κ dt a rt q s) {r : Nat} (hr : r < nF (rw_ rt q s)) : f_Sh_facetPart κ a (nI r) 0 dt = some (rw_ rt q s (10 + 4 * r + 0)) := d_facet h hr (by decide) rfl
theorem rf0 (h : SR κ dt a rt q s) {r : Nat} (hr : r < nF (rw_ rt q s)) : f_R_facetOf κ q (nI s) (nI r) 0 rt = some (rw_ rt q s (10 + 4 * r + 0)) := r_facet h.2.2 (Nat.lt_of_lt_of_le hr h.nf.2.1) (by decide) rfl
theorem df1 (h : SR κ dt a rt q s) {r : Nat} (hr : r < nF (rw_ rt q s)) : f_Sh_facetPart κ a (nI r) 1 dt = some (rw_ rt q s (10 + 4 * r + 1)) := d_facet h hr (by decide) rfl
theorem rf1 (h : SR κ dt a rt q s) {r : Nat} (hr : r < nF (rw_ rt q s)) : f_R_facetOf κ q (nI s) (nI r) 1 rt = some (rw_ rt q s (10 + 4 * r + 1)) := r_facet h.2.2 (Nat.lt_of_lt_of_le hr h.nf.2.1) (by decide) rfl
theorem df2 (h : SR κ dt a rt q s) {r : Nat} (hr : r < nF (rw_ rt q s)) : f_Sh_facetPart κ a (nI r) 2 dt = some (rw_ rt q s (10 + 4 * r + 2)) := d_facet h hr (by decide) rfl
theorem rf2 (h : SR κ dt a rt q s) {r : Nat} (hr : r < nF (rw_ rt q s)) : f_R_facetOf κ q (nI s) (nI r) 2 rt = some (rw_ rt q s (10 + 4 * r + 2)) := r_facet h.2.2 (Nat.lt_of_lt_of_le hr h.nf.2.1) (by decide) rfl
theorem df3 (h : SR κ dt a rt q s) {r : Nat} (hr : r < nF (rw_ rt q s)) : f_Sh_facetPart κ a (nI r) 3 dt = some (rw_ rt q s (10 + 4 * r + 3)) := d_facet h hr (by decide) rfl
theorem rf3 (h : SR κ dt a rt q s) {r : Nat} (hr : r < nF (rw_ rt q s)) : f_R_facetOf κ q (nI s) (nI r) 3 rt = some (rw_ rt q s (10 + 4 * r + 3)) := r_facet h.2.2 (Nat.lt_of_lt_of_le hr h.nf.2.1) (by decide) rfl
theorem rs0 (h : SR κ dt a rt q s) : f_R_sheetOf κ q (nI s) 0 rt = some (rw_ rt q s 0) := r_sheet h.2.2 (by decide) rfl
theorem rs1 (h : SR κ dt a rt q s) : f_R_sheetOf κ q (nI s) 1 rt = some (rw_ rt q s 1) := r_sheet h.2.2 (by decide) rfl
theorem rs2 (h : SR κ dt a rt q s) : f_R_sheetOf κ q (nI s) 2 rt = some (rw_ rt q s 2) := r_sheet h.2.2 (by decide) rfl
theorem rs3 (h : SR κ dt a rt q s) : f_R_sheetOf κ q (nI s) 3 rt = some (rw_ rt q s 3) := r_sheet h.2.2 (by decide) rfl
theorem rs4 (h : SR κ dt a rt q s) : f_R_sheetOf κ q (nI s) 4 rt = some (rw_ rt q s 4) := r_sheet h.2.2 (by decide) rfl
theorem rs5 (h : SR κ dt a rt q s) : f_R_sheetOf κ q (nI s) 5 rt = some (rw_ rt q s 5) := r_sheet h.2.2 (by decide) rfl
theorem rs6 (h : SR κ dt a rt q s) : f_R_sheetOf κ q (nI s) 6 rt = some (rw_ rt q s 6) := r_sheet h.2.2 (by decide) rfl
theorem rs7 (h : SR κ dt a rt q s) : f_R_sheetOf κ q (nI s) 7 rt = some (rw_ rt q s 7) := r_sheet h.2.2 (by decide) rfl
theorem rs8 (h : SR κ dt a rt q s) : f_R_sheetOf κ q (nI s) 8 rt = some (rw_ rt q s 8) := r_sheet h.2.2 (by decide) rfl
theorem rs9 (h : SR κ dt a rt q s) : f_R_sheetOf κ q (nI s) 9 rt = some (rw_ rt q s 9) := r_sheet h.2.2 (by decide) rfl
theorem d_len (h : SR κ dt a rt q s) {r : Nat} (hr : r < nR (rw_ rt q s)) : f_Sh_lengthOf κ a (nI r) dt = some (rw_ rt q s (810 + 7 * r + 3) - rw_ rt q s (810 + 7 * r + 2)) := by
  unfold f_Sh_lengthOf
  rw [dr3 h hr, bnd_t, dr2 h hr, bnd_t]
theorem r_len (h : SR κ dt a rt q s) {r : Nat} (hr : r < nR (rw_ rt q s)) : f_R_longOf κ q (nI s) (nI r) rt = some (rw_ rt q s (810 + 7 * r + 3) - rw_ rt q s (810 + 7 * r + 2)) := by
  unfold f_R_longOf
  rw [rr3 h hr, bnd_t, rr2 h hr, bnd_t]
/-- lengths by rounds -/
theorem q_came (h : SR κ dt a rt q s) (x y : Int32) : Both (f_Sh_lengthOfRounds κ a x y dt) (f_R_cameIn κ q (nI s) x y 0 rt) := by
  have hn := h.nr.2
  unfold f_Sh_lengthOfRounds f_R_cameIn
  refine lk2 (fun d s' i => L_Sh_lengthOfRounds_5 κ dt d a x y s' i) (fun d s' i => L_R_cameIn_6 κ rt d q (nI s) x y 0 s' i) Both (fun _ _ => True) (n := nR (rw_ rt q s)) ?_ ?_ (nR (rw_ rt q s)) 0 FU 0 (by omega) (FUn (by omega)) trivial
  · intro d t _
    rw [L_Sh_lengthOfRounds_5, L_R_cameIn_6, d_nr h, if_pos (nI_le (Nat.le_refl _) (by omega)), rs7 h, bnd_t, h.nr.1, if_pos (nI_le (Nat.le_refl _) (by omega))]
    exact Both.mk _
  · intro d t i hi _ ih
    rw [L_Sh_lengthOfRounds_5, L_R_cameIn_6, d_nr h, if_neg (nI_ge hi (by omega)), rs7 h, bnd_t, h.nr.1, if_neg (nI_ge hi (by omega)), dr4 h hi, bnd_t, rr4 h hi, bnd_t, jn_e, jn_e, d_len h hi, bnd_t, r_len h hi, bnd_t, if_pos rfl, nI_1]
    by_cases hw : wi (rw_ rt q s (810 + 7 * i + 4)).toInt64 x.toInt64 y.toInt64 = 0
    · rw [if_pos hw, if_pos hw]; exact ih _ trivial
    · rw [if_neg hw, if_neg hw]; exact ih _ trivial
end Acc
