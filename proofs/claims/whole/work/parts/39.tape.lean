/-! the tape, both sides: blanks, words, numbers -/
/-- the end of a run of places with P, at most r of them, from p on -/
def tpR (P : Nat → Bool) : Nat → Nat → Nat
  | 0, p => p
  | r + 1, p => if P p = true then tpR P r (p + 1) else p
theorem tpR_lo (P : Nat → Bool) : ∀ r p, p ≤ tpR P r p ∧ tpR P r p ≤ p + r
  | 0, p => ⟨Nat.le_refl _, Nat.le_refl _⟩
  | r + 1, p => by
    rw [tpR]
    have := tpR_lo P r (p + 1)
    split
    · omega
    · omega
theorem tpR_in (P : Nat → Bool) : ∀ r p k, p ≤ k → k < tpR P r p → P k = true
  | 0, p, k, h1, h2 => by rw [tpR] at h2; omega
  | r + 1, p, k, h1, h2 => by
    rw [tpR] at h2
    by_cases hp : P p = true
    · rw [if_pos hp] at h2
      by_cases e : k = p
      · rw [e]; exact hp
      · exact tpR_in P r (p + 1) k (by omega) h2
    · rw [if_neg hp] at h2
      omega
theorem tpR_st (P : Nat → Bool) : ∀ r p, tpR P r p < p + r → P (tpR P r p) = false
  | 0, p, h => by rw [tpR] at h; omega
  | r + 1, p, h => by
    rw [tpR] at h ⊢
    by_cases hp : P p = true
    · rw [if_pos hp] at h ⊢
      exact tpR_st P r (p + 1) (by omega)
    · rw [if_neg hp]
      exact Bool.eq_false_iff.mpr hp
def tpE (P : Nat → Bool) (n p : Nat) : Nat := tpR P (n - p) p
theorem tpE_lo {P : Nat → Bool} {n p : Nat} (h : p ≤ n) : p ≤ tpE P n p ∧ tpE P n p ≤ n := by
  have := tpR_lo P (n - p) p
  unfold tpE
  omega
theorem tpE_in {P : Nat → Bool} {n p k : Nat} (h1 : p ≤ k) (h2 : k < tpE P n p) : P k = true := tpR_in P _ _ k h1 h2
theorem tpE_st {P : Nat → Bool} {n p : Nat} (h : p ≤ n) (h2 : tpE P n p < n) : P (tpE P n p) = false := tpR_st P _ _ (by unfold tpE at h2; omega)
theorem tpE_t {P : Nat → Bool} {n p : Nat} (h : p < n) (hp : P p = true) : tpE P n p = tpE P n (p + 1) := by
  unfold tpE
  rw [show n - p = (n - (p + 1)) + 1 by omega, tpR, if_pos hp]
theorem tpE_f {P : Nat → Bool} {n p : Nat} (hp : P p = false) : tpE P n p = p := by
  unfold tpE
  cases n - p with
  | zero => rfl
  | succ r => rw [tpR, if_neg (by rw [hp]; decide)]
theorem tpE_n {P : Nat → Bool} {n p : Nat} (h : n ≤ p) : tpE P n p = p := by
  unfold tpE
  rw [show n - p = 0 by omega]
  rfl
def tpB (T : Nat → Nat) (k : Nat) : Bool := decide (T k = 32)
def tpL (T : Nat → Nat) (k : Nat) : Bool := decide (97 ≤ T k ∧ T k ≤ 122)
def tpD (T : Nat → Nat) (k : Nat) : Bool := decide (48 ≤ T k ∧ T k ≤ 57)
/-- the next place without a blank; the ends of a word, of digits -/
abbrev skp (T : Nat → Nat) (n p : Nat) : Nat := tpE (tpB T) n p
abbrev wen (T : Nat → Nat) (n p : Nat) : Nat := tpE (tpL T) n p
abbrev den (T : Nat → Nat) (n p : Nat) : Nat := tpE (tpD T) n p
theorem skp_lo {T : Nat → Nat} {n p : Nat} (h : p ≤ n) : p ≤ skp T n p ∧ skp T n p ≤ n := tpE_lo h
theorem wen_lo {T : Nat → Nat} {n p : Nat} (h : p ≤ n) : p ≤ wen T n p ∧ wen T n p ≤ n := tpE_lo h
theorem den_lo {T : Nat → Nat} {n p : Nat} (h : p ≤ n) : p ≤ den T n p ∧ den T n p ≤ n := tpE_lo h
theorem wen_in {T : Nat → Nat} {n p k : Nat} (h1 : p ≤ k) (h2 : k < wen T n p) : tpL T k = true := tpE_in h1 h2
theorem den_in {T : Nat → Nat} {n p k : Nat} (h1 : p ≤ k) (h2 : k < den T n p) : tpD T k = true := tpE_in h1 h2
theorem skp_st {T : Nat → Nat} {n p : Nat} (h : p ≤ n) (h2 : skp T n p < n) : tpB T (skp T n p) = false := tpE_st h h2
theorem wen_st {T : Nat → Nat} {n p : Nat} (h : p ≤ n) (h2 : wen T n p < n) : tpL T (wen T n p) = false := tpE_st h h2
theorem den_st {T : Nat → Nat} {n p : Nat} (h : p ≤ n) (h2 : den T n p < n) : tpD T (den T n p) = false := tpE_st h h2
theorem den_t {T : Nat → Nat} {n p : Nat} (h : p < n) (hp : tpD T p = true) : den T n p = den T n (p + 1) := tpE_t h hp
theorem skp_skp {T : Nat → Nat} {n p : Nat} (h : p ≤ n) : skp T n (skp T n p) = skp T n p := by
  by_cases h2 : skp T n p < n
  · exact tpE_f (tpE_st h h2)
  · exact tpE_n (by omega)
/-- the class's tape, as a reader at a has it -/
def TD (κ : Ko) (st : AS) (a ta n : Nat) (T : Nat → Nat) : Prop := gr st a 0 = some ta ∧ ly κ ta = (50, 400) ∧ n ≤ 400 ∧ gi st a 1 = nI n ∧ (∀ k, k < n → gi st ta k = nI (T k) ∧ T k < 256) ∧ ta ≠ a
/-- a reader: place, fault, values -/
def RS (κ : Ko) (st : AS) (a ta n : Nat) (T : Nat → Nat) (p : Nat) (f m : Int32) : Prop := TD κ st a ta n T ∧ gi st a 2 = nI p ∧ p ≤ n ∧ gi st a 3 = f ∧ gi st a 4 = m
def rdW (a p j : Nat) : Prop := p = a ∧ 2 ≤ j ∧ j ≤ 4
theorem rd_2 {a : Nat} {s1 s2 : AS} {v : Int32} (h : Same (rdW a) s1 s2) : Same (rdW a) s1 (ui s2 a 2 v) := h.ui ⟨rfl, by decide, by decide⟩
theorem rd_3 {a : Nat} {s1 s2 : AS} {v : Int32} (h : Same (rdW a) s1 s2) : Same (rdW a) s1 (ui s2 a 3 v) := h.ui ⟨rfl, by decide, by decide⟩
theorem rd_4 {a : Nat} {s1 s2 : AS} {v : Int32} (h : Same (rdW a) s1 s2) : Same (rdW a) s1 (ui s2 a 4 v) := h.ui ⟨rfl, by decide, by decide⟩
theorem TD.ui {κ : Ko} {st : AS} {a ta n j : Nat} {T : Nat → Nat} {v : Int32} (h : TD κ st a ta n T) (hj : 2 ≤ j) : TD κ (ui st a j v) a ta n T :=
  ⟨h.1, h.2.1, h.2.2.1, by rw [gi_ui, if_neg (fun z => by omega)]; exact h.2.2.2.1, fun k hk => by rw [gi_ui, if_neg (fun z => h.2.2.2.2.2 z.1)]; exact h.2.2.2.2.1 k hk, h.2.2.2.2.2⟩
section Rs
variable {κ : Ko} {st : AS} {a ta n p : Nat} {T : Nat → Nat} {f m : Int32}
theorem RS.at (h : RS κ st a ta n T p f m) {p' : Nat} (hp : p' ≤ n) : RS κ (ui st a 2 (nI p')) a ta n T p' f m :=
  ⟨h.1.ui (by decide), by rw [gi_ui, if_pos ⟨rfl, rfl⟩], hp, by rw [gi_ui, if_neg (fun z => by omega)]; exact h.2.2.2.1, by rw [gi_ui, if_neg (fun z => by omega)]; exact h.2.2.2.2⟩
theorem RS.fl (h : RS κ st a ta n T p f m) (f' : Int32) : RS κ (ui st a 3 f') a ta n T p f' m :=
  ⟨h.1.ui (by decide), by rw [gi_ui, if_neg (fun z => by omega)]; exact h.2.1, h.2.2.1, by rw [gi_ui, if_pos ⟨rfl, rfl⟩], by rw [gi_ui, if_neg (fun z => by omega)]; exact h.2.2.2.2⟩
theorem RS.vl (h : RS κ st a ta n T p f m) (m' : Int32) : RS κ (ui st a 4 m') a ta n T p f m' :=
  ⟨h.1.ui (by decide), by rw [gi_ui, if_neg (fun z => by omega)]; exact h.2.1, h.2.2.1, by rw [gi_ui, if_neg (fun z => by omega)]; exact h.2.2.2.1, by rw [gi_ui, if_pos ⟨rfl, rfl⟩]⟩
/-- blanks passed -/
theorem d_next (h : RS κ st a ta n T p f m) : ∃ st', f_Rd_nextPlace κ a st = some (nI (skp T n p), st') ∧ RS κ st' a ta n T (skp T n p) f m ∧ Same (rdW a) st st' := by
  unfold f_Rd_nextPlace
  have hn := h.1.2.2.1
  have main : ∀ (r p d : Nat) (st : AS), r < d → p + r = n → RS κ st a ta n T p f m → ∃ st', L_Rd_nextPlace_0 κ d a st = some (nI (skp T n p), st') ∧ RS κ st' a ta n T (skp T n p) f m ∧ Same (rdW a) st st' := by
    intro r
    induction r with
    | zero =>
      intro p d st hd hr h
      obtain ⟨d, rfl⟩ : ∃ e, d = e + 1 := ⟨d - 1, by omega⟩
      rw [L_Rd_nextPlace_0, h.1.2.2.2.1, h.2.1, if_pos (nI_le (by omega) (by omega)), show skp T n p = p from tpE_n (by omega)]
      exact ⟨st, rfl, h, Same.rf _ _⟩
    | succ r ih =>
      intro p d st hd hr h
      obtain ⟨d, rfl⟩ : ∃ e, d = e + 1 := ⟨d - 1, by omega⟩
      have hb := h.1.2.2.2.2.1 p (by omega)
      have c32 := (nI_ltk (m := T p) (k := 32) (y := 32) rfl (by omega) (by decide)).2.2.2.2
      rw [L_Rd_nextPlace_0, h.1.2.2.2.1, h.2.1, if_neg (nI_ge (by omega) (by omega)), h.1.1, bnd_t, grd_t h.1.2.1, if_neg (nI_ge (by omega) (by omega)), bnd_t, grd_t h.1.2.1, grd_t (vp_in_nI (by omega) (by decide)), nI_clamp (by omega), hb.1, nI_1]
      simp only [c32]
      by_cases hc : T p = 32
      · rw [if_pos hc]
        obtain ⟨st', g1, g2, g3⟩ := ih (p + 1) d (ui st a 2 (nI (p + 1))) (by omega) (by omega) (h.at (by omega))
        rw [show skp T n p = skp T n (p + 1) from tpE_t (by omega) (decide_eq_true hc)]
        exact ⟨st', g1, g2, (rd_2 (Same.rf _ _)).tr g3⟩
      · rw [if_neg hc, show skp T n p = p from tpE_f (decide_eq_false hc)]
        exact ⟨st, rfl, h, Same.rf _ _⟩
  exact main (n - p) p FU st (FUn (by omega)) (by have := h.2.2.1; omega) h
/-- a fault told -/
def ffl (f : Int32) (k b : Nat) : Int32 := if f = 0 then nI (1 + 8 * b + k) else f
theorem d_fail (h : RS κ st a ta n T p f m) {x y : Int32} {b k : Nat} (hx : x = nI b) (hy : y = nI k) : ∃ st', f_Rd_fail κ a x y st = st' ∧ RS κ st' a ta n T p (ffl f k b) m ∧ Same (rdW a) st st' := by
  unfold f_Rd_fail ffl
  rw [h.2.2.2.1, hx, hy]
  by_cases hf : f = 0
  · rw [if_pos hf, if_pos hf]
    refine ⟨_, rfl, ?_, rd_3 (Same.rf _ _)⟩
    rw [show (1 : Int32) + 8 * nI b + nI k = nI (1 + 8 * b + k) by rw [show (1 : Int32) = nI 1 from rfl, show (8 : Int32) = nI 8 from rfl, nI_mul, nI_add, nI_add]]
    exact h.fl _
  · rw [if_neg hf, if_neg hf]
    exact ⟨st, rfl, h, Same.rf _ _⟩
/-- a sign taken -/
def tks (T : Nat → Nat) (n p : Nat) (f : Int32) (b : Nat) : Bool := decide (f = 0 ∧ skp T n p < n ∧ T (skp T n p) = b)
theorem d_takes (h : RS κ st a ta n T p f m) {x : Int32} {b : Nat} (hx : x = nI b) (hb : b < 256) : ∃ st', f_Rd_takesByte κ a x st = some ((if tks T n p f b = true then 1 else 0), st') ∧ RS κ st' a ta n T (if tks T n p f b = true then skp T n p + 1 else if f = 0 then skp T n p else p) f m ∧ Same (rdW a) st st' := by
  unfold f_Rd_takesByte
  simp only [jn_e]
  rw [h.2.2.2.1, hx]
  have hn := h.1.2.2.1
  by_cases hf : f = 0
  · rw [if_pos hf]
    obtain ⟨s1, e1, h1, w1⟩ := d_next h
    rw [e1, bnd2_t, h1.1.2.2.2.1]
    have hsn : skp T n p ≤ n := h1.2.2.1
    by_cases hs : skp T n p < n
    · have hb' := h1.1.2.2.2.2.1 (skp T n p) hs
      rw [if_neg (nI_ge hs (by omega)), h1.1.1, bnd_t, grd_t h1.1.2.1, h1.2.1, gat_n rfl (by omega) (by decide), hb'.1]
      have cb := nI_eq (a := T (skp T n p)) (b := b) (by omega) (by omega)
      simp only [cb]
      by_cases hc : T (skp T n p) = b
      · rw [if_pos hc, if_neg (by decide), grd_t (Or.inr trivial), nI_1, show tks T n p f b = true from decide_eq_true ⟨hf, hs, hc⟩, if_pos rfl, if_pos rfl]
        exact ⟨_, rfl, h1.at (by omega), rd_2 w1⟩
      · rw [if_neg hc, if_pos trivial, grd_t (Or.inl trivial), show tks T n p f b = false from decide_eq_false (fun z => hc z.2.2), if_neg (by decide), if_neg (by decide), if_pos hf]
        exact ⟨_, rfl, h1, w1⟩
    · rw [if_pos (nI_le (by omega) (by omega)), if_pos trivial, grd_t (Or.inl trivial), show tks T n p f b = false from decide_eq_false (fun z => hs z.2.1), if_neg (by decide), if_neg (by decide), if_pos hf]
      exact ⟨_, rfl, h1, w1⟩
  · rw [if_neg hf, if_pos trivial, grd_t (Or.inl trivial), show tks T n p f b = false from decide_eq_false (fun z => hf z.1), if_neg (by decide), if_neg (by decide), if_neg hf]
    exact ⟨_, rfl, h, Same.rf _ _⟩
/-- a number's value: its first five digits -/
def nvd (T : Nat → Nat) (b : Nat) : Nat → Nat
  | 0 => 0
  | k + 1 => nvd T b k * 10 + (T (b + k) - 48)
theorem nvd_lt {T : Nat → Nat} {b : Nat} : ∀ k, (∀ j, j < k → T (b + j) ≤ 57) → nvd T b k < 10 ^ k
  | 0, _ => by rw [nvd]; decide
  | k + 1, h => by
    have h1 := nvd_lt k (fun j hj => h j (by omega))
    have h2 := h k (by omega)
    rw [nvd, Nat.pow_succ]
    omega
def nvl5 (T : Nat → Nat) (b e : Nat) : Nat := nvd T b (min (e - b) 5)
theorem nvl5_lt {T : Nat → Nat} {n b : Nat} : nvl5 T b (den T n b) < 100000 := by
  have h := nvd_lt (T := T) (b := b) (min (den T n b - b) 5) (fun j hj => by
    have := den_in (T := T) (n := n) (p := b) (k := b + j) (by omega) (by omega)
    unfold tpD at this
    have := of_decide_eq_true this
    omega)
  have h2 : 10 ^ min (den T n b - b) 5 ≤ 10 ^ 5 := Nat.pow_le_pow_right (by decide) (Nat.min_le_right _ _)
  unfold nvl5
  omega
/-- what a number's fault is, 0 without -/
def nfl (T : Nat → Nat) (n p lo hi : Nat) : Nat :=
  if den T n (skp T n p) = skp T n p then 1 + 8 * skp T n p + 0
  else if 5 < den T n (skp T n p) - skp T n p ∨ ¬ (lo ≤ nvl5 T (skp T n p) (den T n (skp T n p)) ∧ nvl5 T (skp T n p) (den T n (skp T n p)) ≤ hi) then 1 + 8 * skp T n p + 1 else 0
theorem d_number (h : RS κ st a ta n T p f m) {x y : Int32} {lo hi : Nat} (hx : x = nI lo) (hy : y = nI hi) (hlo : lo < 2 ^ 31) (hhi : hi < 2 ^ 31) : ∃ st', f_Rd_number κ a x y st = some (nI (nvl5 T (skp T n p) (den T n (skp T n p))), st') ∧ RS κ st' a ta n T (den T n (skp T n p)) (if f = 0 then nI (nfl T n p lo hi) else f) m ∧ Same (rdW a) st st' := by
  have hn := h.1.2.2.1
  unfold f_Rd_number
  obtain ⟨s1, e1, h1, w1⟩ := d_next h
  rw [e1, bnd2_t]
  generalize hB : skp T n p = b at *
  have hbn := h1.2.2.1
  have loop : ∀ (k : Nat → Int32 → Int32 → Int32 → Int32 → AS → Option (Int32 × AS)) (r c d : Nat) (st : AS), r < d → c + r = n → b ≤ c → (∀ j, b ≤ j → j < c → tpD T j = true) → RS κ st a ta n T c f m → ∃ st', L_Rd_number_8 κ k d a x y (nI b) (nI (nvd T b (min (c - b) 5))) st = k a x y (nI b) (nI (nvl5 T b (den T n c))) st' ∧ RS κ st' a ta n T (den T n c) f m ∧ Same (rdW a) st st' := by
    intro k r
    induction r with
    | zero =>
      intro c d st hd hr hbc hall h
      obtain ⟨d, rfl⟩ : ∃ e, d = e + 1 := ⟨d - 1, by omega⟩
      rw [L_Rd_number_8, h.1.2.2.2.1, h.2.1, if_pos (nI_le (by omega) (by omega)), show den T n c = c from tpE_n (by omega)]
      exact ⟨st, rfl, h, Same.rf _ _⟩
    | succ r ih =>
      intro c d st hd hr hbc hall h
      obtain ⟨d, rfl⟩ : ∃ e, d = e + 1 := ⟨d - 1, by omega⟩
      have hb' := h.1.2.2.2.2.1 c (by omega)
      rw [L_Rd_number_8, h.1.2.2.2.1, h.2.1, if_neg (nI_ge (by omega) (by omega)), h.1.1, bnd_t, grd_t h.1.2.1, gat_n rfl (by omega) (by decide), hb'.1]
      rw [show (48 : Int64) = (nI 48).toInt64 from rfl, show (57 : Int64) = (nI 57).toInt64 from rfl]
      simp only [wi_t, jn_e, nI_leI (show 48 < 2 ^ 31 by decide) (show T c < 2 ^ 31 by omega), nI_leI (show T c < 2 ^ 31 by omega) (show 57 < 2 ^ 31 by decide)]
      by_cases hc : 48 ≤ T c ∧ T c ≤ 57
      · rw [if_neg (fun z => z hc), nI_sub hbc, show (5 : Int32) = nI 5 from rfl, nI_1]
        simp only [nI_leI (show 5 < 2 ^ 31 by decide) (show c - b < 2 ^ 31 by omega)]
        rw [show den T n c = den T n (c + 1) from tpE_t (by omega) (decide_eq_true hc)]
        have hall' : ∀ j, b ≤ j → j < c + 1 → tpD T j = true := fun j j1 j2 => by
          by_cases e : j = c
          · rw [e]; exact decide_eq_true hc
          · exact hall j j1 (by omega)
        obtain ⟨st', g1, g2, g3⟩ := ih (c + 1) d (ui st a 2 (nI (c + 1))) (by omega) (by omega) (by omega) hall' (h.at (by omega))
        by_cases h5 : 5 ≤ c - b
        · rw [if_pos h5]
          rw [show min (c + 1 - b) 5 = min (c - b) 5 by omega] at g1
          exact ⟨st', g1, g2, (rd_2 (Same.rf _ _)).tr g3⟩
        · rw [if_neg h5, bnd_t, grd_t h.1.2.1, gat_n rfl (by omega) (by decide), hb'.1]
          rw [show min (c + 1 - b) 5 = (c - b) + 1 by omega, nvd, show b + (c - b) = c by omega] at g1
          rw [show min (c - b) 5 = c - b by omega, show (10 : Int32) = nI 10 from rfl, nI_mul, nI_add, show (48 : Int32) = nI 48 from rfl, nI_sub (by omega), show nvd T b (c - b) * 10 + T c - 48 = nvd T b (c - b) * 10 + (T c - 48) by omega]
          exact ⟨st', g1, g2, (rd_2 (Same.rf _ _)).tr g3⟩
      · rw [if_pos hc, show den T n c = c from tpE_f (decide_eq_false hc)]
        exact ⟨st, rfl, h, Same.rf _ _⟩
  obtain ⟨s2, e2, h2, w2⟩ := loop (fun (v14 : Nat) (v16 : Int32) (v17 : Int32) (v18 : Int32) (v19 : Int32) (s20 : AS) => jn (fun (s22 : AS) => jn (fun (s25 : AS) => some (v19, s25)) fun j24 => jn (j24 (f_Rd_fail κ v14 v18 (1 : Int32) s22)) fun j23 => if 5 < ((gi s22 v14 2) - v18) then j23 else if (wi ((v19 : Int32).toInt64) ((v16 : Int32).toInt64) ((v17 : Int32).toInt64)) = 0 then j23 else j24 s22) fun j21 => if (gi s20 v14 2) = v18 then j21 (f_Rd_fail κ v14 v18 (0 : Int32) s20) else j21 s20) (n - b) b FU s1 (FUn (by omega)) (by omega) (Nat.le_refl _) (fun j j1 j2 => by omega) h1
  rw [show nI (nvd T b (min (b - b) 5)) = 0 by rw [Nat.sub_self]; rfl] at e2
  rw [e2]
  simp only [jn_e]
  have hlo' := den_lo (T := T) hbn
  have hv := nvl5_lt (T := T) (n := n) (b := b)
  rw [h2.2.1]
  simp only [nI_eq (show den T n b < 2 ^ 31 by omega) (show b < 2 ^ 31 by omega)]
  unfold nfl
  rw [hB]
  have c5 : ∀ (s : AS), gi s a 2 = nI (den T n b) → (5 < gi s a 2 - nI b ↔ 5 < den T n b - b) := fun s hs => by rw [hs, nI_sub hlo'.1, show (5 : Int32) = nI 5 from rfl, nI_ltI (by decide) (by omega)]
  by_cases hd : den T n b = b
  · rw [if_pos hd, if_pos hd]
    obtain ⟨s3, e3, h3, w3⟩ := d_fail h2 (x := nI b) (y := 0) (b := b) (k := 0) rfl rfl
    rw [e3]
    simp only [c5 s3 h3.2.1]
    rw [if_neg (show ¬ 5 < den T n b - b by omega)]
    by_cases hw : wi (nI (nvl5 T b (den T n b))).toInt64 x.toInt64 y.toInt64 = 0
    · rw [if_pos hw]
      obtain ⟨s4, e4, h4, w4⟩ := d_fail h3 (x := nI b) (y := 1) (b := b) (k := 1) rfl rfl
      rw [e4]
      refine ⟨s4, rfl, ?_, ((w1.tr w2).tr w3).tr w4⟩
      have : ffl (ffl f 0 b) 1 b = if f = 0 then nI (1 + 8 * b + 0) else f := by
        unfold ffl
        by_cases hf : f = 0
        · rw [if_pos hf, if_neg (nI_ne0 (by omega) (by omega))]
        · rw [if_neg hf, if_neg hf]
      rw [this] at h4
      exact h4
    · rw [if_neg hw]
      exact ⟨s3, rfl, h3, (w1.tr w2).tr w3⟩
  · rw [if_neg hd, if_neg hd]
    simp only [show ((5 : Int32) < nI (den T n b) - nI b ↔ 5 < den T n b - b) by rw [nI_sub hlo'.1, show (5 : Int32) = nI 5 from rfl, nI_ltI (by decide) (by omega)], wi_t, hx, hy, nI_leI hlo (show nvl5 T b (den T n b) < 2 ^ 31 by omega), nI_leI (show nvl5 T b (den T n b) < 2 ^ 31 by omega) hhi]
    obtain ⟨s4, e4, h4, w4⟩ := d_fail h2 (x := nI b) (y := 1) (b := b) (k := 1) rfl rfl
    rw [e4]
    by_cases k1 : 5 < den T n b - b
    · rw [if_pos k1, if_pos (Or.inl k1)]
      exact ⟨s4, rfl, h4, (w1.tr w2).tr w4⟩
    · rw [if_neg k1]
      by_cases k2 : lo ≤ nvl5 T b (den T n b) ∧ nvl5 T b (den T n b) ≤ hi
      · rw [if_neg (fun z => z k2), if_neg (show ¬ (5 < den T n b - b ∨ ¬(lo ≤ nvl5 T b (den T n b) ∧ nvl5 T b (den T n b) ≤ hi)) from fun z => z.elim k1 (fun y => y k2))]
        refine ⟨s2, rfl, ?_, w1.tr w2⟩
        rw [show (if f = 0 then nI 0 else f) = f by
          by_cases hf : f = 0
          · rw [if_pos hf, hf]; rfl
          · rw [if_neg hf]]
        exact h2
      · rw [if_pos k2, if_pos (Or.inr k2)]
        exact ⟨s4, rfl, h4, (w1.tr w2).tr w4⟩
end Rs
