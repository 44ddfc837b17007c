/-! base: numbers, rows, guarded places; the small members -/
theorem ite_t {α : Type} {c : Prop} [Decidable c] {a b : α} {P : α → Prop} (h : c) (k : P (if c then a else b)) : P a := by rwa [if_pos h] at k
theorem ite_f {α : Type} {c : Prop} [Decidable c] {a b : α} {P : α → Prop} (h : ¬ c) (k : P (if c then a else b)) : P b := by rwa [if_neg h] at k
theorem i32le {a b : Int32} : a ≤ b ↔ a.toInt ≤ b.toInt := Int32.le_iff_toInt_le
theorem i32lt {a b : Int32} : a < b ↔ a.toInt < b.toInt := Int32.lt_iff_toInt_lt
theorem i64le {a b : Int64} : a ≤ b ↔ a.toInt ≤ b.toInt := Int64.le_iff_toInt_le
theorem i64lt {a b : Int64} : a < b ↔ a.toInt < b.toInt := Int64.lt_iff_toInt_lt
theorem i2lt {a b : Int32} : a.toInt64 < b.toInt64 ↔ a < b := by rw [i64lt, i32lt, Int32.toInt_toInt64, Int32.toInt_toInt64]
theorem i2le {a b : Int32} : a.toInt64 ≤ b.toInt64 ↔ a ≤ b := by rw [i64le, i32le, Int32.toInt_toInt64, Int32.toInt_toInt64]
theorem vp_of {x : Int32} {n : Nat} (h0 : ¬ x < 0) (h1 : ¬ nI n ≤ x) (hn : n < 2 ^ 31) : vp_in x n := by
  rw [vp_in_iff]
  rw [i32lt] at h0
  rw [i32le, nI_toInt hn] at h1
  have : (0 : Int32).toInt = 0 := rfl
  omega
theorem vp_n {x : Int32} {n N : Nat} (hx : x = nI n) (h : n < N) (hN : N < 2 ^ 31) : vp_in x N := by rw [hx]; exact vp_in_nI h hN
/-- a place of a row, 0 beside it -/
def gat (f : Nat → Int32) (n : Nat) (i : Int32) : Int32 := if i < 0 then 0 else if nI n ≤ i then 0 else f i.toNatClampNeg
def gatL (f : Nat → Int64) (n : Nat) (i : Int32) : Int64 := if i < 0 then 0 else if nI n ≤ i then 0 else f i.toNatClampNeg
def gput (st : AS) (a n : Nat) (i v : Int32) : AS := if i < 0 then st else if nI n ≤ i then st else ui st a i.toNatClampNeg v
def gputL (st : AS) (a n : Nat) (i : Int32) (v : Int64) : AS := if i < 0 then st else if nI n ≤ i then st else ul st a i.toNatClampNeg v
theorem gat_n {f : Nat → Int32} {n : Nat} {i : Int32} {j : Nat} (hi : i = nI j) (hj : j < n) (hn : n < 2 ^ 31) : gat f n i = f j := by
  subst hi
  unfold gat
  rw [if_neg (nI_pos (by omega)), if_neg (nI_ge hj hn), nI_clamp (by omega)]
theorem gatL_n {f : Nat → Int64} {n : Nat} {i : Int32} {j : Nat} (hi : i = nI j) (hj : j < n) (hn : n < 2 ^ 31) : gatL f n i = f j := by
  subst hi
  unfold gatL
  rw [if_neg (nI_pos (by omega)), if_neg (nI_ge hj hn), nI_clamp (by omega)]
theorem gput_n {st : AS} {a n : Nat} {i v : Int32} {j : Nat} (hi : i = nI j) (hj : j < n) (hn : n < 2 ^ 31) : gput st a n i v = ui st a j v := by
  subst hi
  unfold gput
  rw [if_neg (nI_pos (by omega)), if_neg (nI_ge hj hn), nI_clamp (by omega)]
theorem gputL_n {st : AS} {a n : Nat} {i : Int32} {v : Int64} {j : Nat} (hi : i = nI j) (hj : j < n) (hn : n < 2 ^ 31) : gputL st a n i v = ul st a j v := by
  subst hi
  unfold gputL
  rw [if_neg (nI_pos (by omega)), if_neg (nI_ge hj hn), nI_clamp (by omega)]
section Small
variable {κ : Ko} {st : AS} {a n : Nat}
theorem s_X_at {F : Int32 → AS → Prop} {x : Int32} (hl : ly κ a = (50, n)) (hn : n < 2 ^ 31) (k : F (gat (gi st a) n x) st) : C κ M_X_at [.ref a, .int x] st (RI F) := by
  unfold gat at k
  refine e_X_at ?_
  refine b_X_at_0 (k1 := fun h0 => ?_) (k2 := fun h0 => ?_)
  · refine b_X_at_16 (k1 := ⟨_, rfl, (ite_t (P := fun z => F z st) h0 k)⟩)
  · refine b_X_at_4 (l_a0 := hl) (k1 := fun h4 => ?_) (k2 := fun h4 => ?_)
    · refine b_X_at_16 (k1 := ⟨_, rfl, (ite_t (P := fun z => F z st) h4 (ite_f (P := fun z => F z st) h0 k))⟩)
    · refine b_X_at_10 (l_a0 := hl) (b1 := (vp_of (by assumption) (by assumption) hn)) (k2 := ⟨_, rfl, (ite_f (P := fun z => F z st) h4 (ite_f (P := fun z => F z st) h0 k))⟩)
theorem s_X_atL {F : Int64 → AS → Prop} {x : Int32} (hl : ly κ a = (51, n)) (hn : n < 2 ^ 31) (k : F (gatL (gl st a) n x) st) : C κ M_X_atL [.ref a, .int x] st (RL F) := by
  unfold gatL at k
  refine e_X_atL ?_
  refine b_X_atL_0 (k1 := fun h0 => ?_) (k2 := fun h0 => ?_)
  · refine b_X_atL_16 (k1 := ⟨_, rfl, (ite_t (P := fun z => F z st) h0 k)⟩)
  · refine b_X_atL_4 (l_a0 := hl) (k1 := fun h4 => ?_) (k2 := fun h4 => ?_)
    · refine b_X_atL_16 (k1 := ⟨_, rfl, (ite_t (P := fun z => F z st) h4 (ite_f (P := fun z => F z st) h0 k))⟩)
    · refine b_X_atL_10 (l_a0 := hl) (b1 := (vp_of (by assumption) (by assumption) hn)) (k2 := ⟨_, rfl, (ite_f (P := fun z => F z st) h4 (ite_f (P := fun z => F z st) h0 k))⟩)
theorem s_X_put {F : AS → Prop} {x v : Int32} (hl : ly κ a = (50, n)) (hn : n < 2 ^ 31) (k : F (gput st a n x v)) : C κ M_X_put [.ref a, .int x, .int v] st (RV F) := by
  unfold gput at k
  refine e_X_put ?_
  refine b_X_put_0 (k1 := fun h0 => ?_) (k2 := fun h0 => ?_)
  · refine b_X_put_14 (k1 := ⟨rfl, (ite_t (P := F) h0 k)⟩)
  · refine b_X_put_4 (l_a0 := hl) (k1 := fun h4 => ?_) (k2 := fun h4 => ?_)
    · refine b_X_put_14 (k1 := ⟨rfl, (ite_t (P := F) h4 (ite_f (P := F) h0 k))⟩)
    · refine b_X_put_10 (l_a0 := hl) (b1 := (vp_of (by assumption) (by assumption) hn)) (k2 := ⟨rfl, (ite_f (P := F) h4 (ite_f (P := F) h0 k))⟩)
theorem s_X_putL {F : AS → Prop} {x : Int32} {v : Int64} (hl : ly κ a = (51, n)) (hn : n < 2 ^ 31) (k : F (gputL st a n x v)) : C κ M_X_putL [.ref a, .int x, .long v] st (RV F) := by
  unfold gputL at k
  refine e_X_putL ?_
  refine b_X_putL_0 (k1 := fun h0 => ?_) (k2 := fun h0 => ?_)
  · refine b_X_putL_14 (k1 := ⟨rfl, (ite_t (P := F) h0 k)⟩)
  · refine b_X_putL_4 (l_a0 := hl) (k1 := fun h4 => ?_) (k2 := fun h4 => ?_)
    · refine b_X_putL_14 (k1 := ⟨rfl, (ite_t (P := F) h4 (ite_f (P := F) h0 k))⟩)
    · refine b_X_putL_10 (l_a0 := hl) (b1 := (vp_of (by assumption) (by assumption) hn)) (k2 := ⟨rfl, (ite_f (P := F) h4 (ite_f (P := F) h0 k))⟩)
/-- 1 if within, else 0 -/
def wi (a lo hi : Int64) : Int32 := if a < lo then 0 else if hi < a then 0 else 1
theorem s_X_within {F : Int32 → AS → Prop} {a lo hi : Int64} (k : F (wi a lo hi) st) : C κ M_X_within [.long a, .long lo, .long hi] st (RI F) := by
  unfold wi at k
  refine e_X_within ?_
  refine b_X_within_0 (k1 := fun h0 => ?_) (k2 := fun h0 => ?_)
  · refine b_X_within_17 (k1 := ⟨_, rfl, (ite_t (P := fun z => F z st) h0 k)⟩)
  · refine b_X_within_6 (k1 := fun h6 => ?_) (k2 := fun h6 => ?_)
    · refine b_X_within_17 (k1 := ⟨_, rfl, (ite_t (P := fun z => F z st) h6 (ite_f (P := fun z => F z st) h0 k))⟩)
    · refine b_X_within_13 (k1 := ⟨_, rfl, (ite_f (P := fun z => F z st) h6 (ite_f (P := fun z => F z st) h0 k))⟩)
theorem wi_i {a lo hi : Int32} : wi a.toInt64 lo.toInt64 hi.toInt64 = if lo ≤ a ∧ a ≤ hi then 1 else 0 := by
  unfold wi
  simp only [i2lt]
  by_cases h : a < lo
  · rw [if_pos h, if_neg (fun z => Int32.not_lt.mpr z.1 h)]
  · rw [if_neg h]
    by_cases h2 : hi < a
    · rw [if_pos h2, if_neg (fun z => Int32.not_lt.mpr z.2 h2)]
    · rw [if_neg h2, if_pos ⟨Int32.not_lt.mp h, Int32.not_lt.mp h2⟩]
theorem s_R_in {F : Int32 → AS → Prop} {a lo hi : Int64} (k : F (wi a lo hi) st) : C κ M_R_in [.long a, .long lo, .long hi] st (RI F) := by
  unfold wi at k
  refine e_R_in ?_
  refine b_R_in_0 (k1 := fun h0 => ?_) (k2 := fun h0 => ?_)
  · refine b_R_in_17 (k1 := ⟨_, rfl, (ite_t (P := fun z => F z st) h0 k)⟩)
  · refine b_R_in_6 (k1 := fun h6 => ?_) (k2 := fun h6 => ?_)
    · refine b_R_in_17 (k1 := ⟨_, rfl, (ite_t (P := fun z => F z st) h6 (ite_f (P := fun z => F z st) h0 k))⟩)
    · refine b_R_in_13 (k1 := ⟨_, rfl, (ite_f (P := fun z => F z st) h6 (ite_f (P := fun z => F z st) h0 k))⟩)
end Small
--@spec X_within
--@spec R_in
/-! the JDK's numbers -/
def imax (x y : Int32) : Int32 := if x < y then y else x
def imin (x y : Int32) : Int32 := if y < x then y else x
def iabs (x : Int32) : Int32 := if 0 ≤ x then x else -x
def ifl (x y : Int32) : Int32 := if 0 ≤ x ^^^ y then x / y else if x / y * y = x then x / y else x / y - 1
def lmax (x y : Int64) : Int64 := if x < y then y else x
def lmin (x y : Int64) : Int64 := if y < x then y else x
section Jdk
variable {κ : Ko} {st : AS}
theorem s_Jm_max {F : Int32 → AS → Prop} {x y : Int32} (k : F (imax x y) st) : C κ M_Jm_max [.int x, .int y] st (RI F) := by
  unfold imax at k
  refine e_Jm_max ?_
  refine b_Jm_max_0 (k1 := fun h0 => ?_) (k2 := fun h0 => ?_)
  · refine b_Jm_max_9 (k1 := ⟨_, rfl, (ite_t (P := fun z => F z st) h0 k)⟩)
  · refine b_Jm_max_5 (k1 := ⟨_, rfl, (ite_f (P := fun z => F z st) h0 k)⟩)
theorem s_Jm_min {F : Int32 → AS → Prop} {x y : Int32} (k : F (imin x y) st) : C κ M_Jm_min [.int x, .int y] st (RI F) := by
  unfold imin at k
  refine e_Jm_min ?_
  refine b_Jm_min_0 (k1 := fun h0 => ?_) (k2 := fun h0 => ?_)
  · refine b_Jm_min_9 (k1 := ⟨_, rfl, (ite_t (P := fun z => F z st) h0 k)⟩)
  · refine b_Jm_min_5 (k1 := ⟨_, rfl, (ite_f (P := fun z => F z st) h0 k)⟩)
theorem s_Jm_abs {F : Int32 → AS → Prop} {x : Int32} (k : F (iabs x) st) : C κ M_Jm_abs [.int x] st (RI F) := by
  unfold iabs at k
  refine e_Jm_abs ?_
  refine b_Jm_abs_0 (k1 := fun h0 => ?_) (k2 := fun h0 => ?_)
  · refine b_Jm_abs_9 (k1 := ⟨_, rfl, (ite_t (P := fun z => F z st) h0 k)⟩)
  · refine b_Jm_abs_4 (k1 := ⟨_, rfl, (ite_f (P := fun z => F z st) h0 k)⟩)
theorem s_R_size {F : Int32 → AS → Prop} {x : Int32} (k : F (iabs x) st) : C κ M_R_size [.int x] st (RI F) := by
  unfold iabs at k
  refine e_R_size ?_
  refine b_R_size_0 (k1 := fun h0 => ?_) (k2 := fun h0 => ?_)
  · refine b_R_size_9 (k1 := ⟨_, rfl, (ite_t (P := fun z => F z st) h0 k)⟩)
  · refine b_R_size_4 (k1 := ⟨_, rfl, (ite_f (P := fun z => F z st) h0 k)⟩)
theorem s_Jm_floorDiv {F : Int32 → AS → Prop} {x y : Int32} (hy : ¬ y = 0) (k : F (ifl x y) st) : C κ M_Jm_floorDiv [.int x, .int y] st (RI F) := by
  unfold ifl at k
  refine e_Jm_floorDiv ?_
  refine b_Jm_floorDiv_0 (z1 := hy) (k2 := fun h0 => ?_) (k3 := fun h0 => ?_)
  · refine b_Jm_floorDiv_21 (k1 := ⟨_, rfl, (ite_t (P := fun z => F z st) h0 k)⟩)
  · refine b_Jm_floorDiv_10 (k1 := fun h10 => ?_) (k2 := fun h10 => ?_)
    · refine b_Jm_floorDiv_21 (k1 := ⟨_, rfl, (ite_t (P := fun z => F z st) h10 (ite_f (P := fun z => F z st) h0 k))⟩)
    · refine b_Jm_floorDiv_17 (k1 := ⟨_, rfl, (ite_f (P := fun z => F z st) h10 (ite_f (P := fun z => F z st) h0 k))⟩)
theorem s_Jm_maxL {F : Int64 → AS → Prop} {x y : Int64} (k : F (lmax x y) st) : C κ M_Jm_maxL [.long x, .long y] st (RL F) := by
  unfold lmax at k
  refine e_Jm_maxL ?_
  refine b_Jm_maxL_0 (k1 := fun h0 => ?_) (k2 := fun h0 => ?_)
  · refine b_Jm_maxL_10 (k1 := ⟨_, rfl, (ite_t (P := fun z => F z st) h0 k)⟩)
  · refine b_Jm_maxL_6 (k1 := ⟨_, rfl, (ite_f (P := fun z => F z st) h0 k)⟩)
theorem s_Jm_minL {F : Int64 → AS → Prop} {x y : Int64} (k : F (lmin x y) st) : C κ M_Jm_minL [.long x, .long y] st (RL F) := by
  unfold lmin at k
  refine e_Jm_minL ?_
  refine b_Jm_minL_0 (k1 := fun h0 => ?_) (k2 := fun h0 => ?_)
  · refine b_Jm_minL_10 (k1 := ⟨_, rfl, (ite_t (P := fun z => F z st) h0 k)⟩)
  · refine b_Jm_minL_6 (k1 := ⟨_, rfl, (ite_f (P := fun z => F z st) h0 k)⟩)
theorem s_X_held {F : Int64 → AS → Prop} {x lo hi : Int64} (k : F (lmax lo (lmin hi x)) st) : C κ M_X_held [.long x, .long lo, .long hi] st (RL F) := by
  refine e_X_held ?_
  refine b_X_held_0 (k1 := s_Jm_minL  ?_)
  refine b_X_held_7 (k1 := s_Jm_maxL  ?_)
  refine b_X_held_10 (k1 := ⟨_, rfl, k⟩)
/-- held between two bounds -/
def lbnd (x lo hi : Int64) : Int64 := if lo ≤ x then if x ≤ hi then x else hi else lo
theorem s_R_bounded {F : Int64 → AS → Prop} {x lo hi : Int64} (k : F (lbnd x lo hi) st) : C κ M_R_bounded [.long x, .long lo, .long hi] st (RL F) := by
  unfold lbnd at k
  refine e_R_bounded ?_
  refine b_R_bounded_0 (k1 := fun h0 => ?_) (k2 := fun h0 => ?_)
  · refine b_R_bounded_10 (k1 := fun h10 => ?_) (k2 := fun h10 => ?_)
    · refine b_R_bounded_22 (k1 := ⟨_, rfl, (ite_t (P := fun z => F z st) h10 (ite_t (P := fun z => F z st) h0 k))⟩)
    · refine b_R_bounded_17 (k1 := ⟨_, rfl, (ite_f (P := fun z => F z st) h10 (ite_t (P := fun z => F z st) h0 k))⟩)
  · refine b_R_bounded_6 (k1 := ⟨_, rfl, (ite_f (P := fun z => F z st) h0 k)⟩)
theorem lbnd_eq {x lo hi : Int64} (h : lo ≤ hi) : lmax lo (lmin hi x) = lbnd x lo hi := by
  unfold lmax lmin lbnd
  by_cases h1 : x < hi
  · rw [if_pos h1]
    by_cases h2 : lo < x
    · rw [if_pos h2, if_pos (Int64.le_of_lt h2), if_pos (Int64.le_of_lt h1)]
    · rw [if_neg h2]
      by_cases h3 : lo ≤ x
      · rw [if_pos h3, if_pos (Int64.le_of_lt h1)]
        exact Int64.le_antisymm h3 (Int64.not_lt.mp h2)
      · rw [if_neg h3]
  · have h1' : hi ≤ x := Int64.not_lt.mp h1
    rw [if_neg h1]
    rw [if_pos (Int64.le_trans h h1')]
    by_cases h2 : x ≤ hi
    · have e := Int64.le_antisymm h2 h1'
      subst e
      rw [if_pos h2]
      by_cases h3 : lo < x
      · rw [if_pos h3]
      · rw [if_neg h3]; exact Int64.le_antisymm h (Int64.not_lt.mp h3)
    · rw [if_neg h2]
      by_cases h3 : lo < hi
      · rw [if_pos h3]
      · rw [if_neg h3]; exact Int64.le_antisymm h (Int64.not_lt.mp h3)
def ldown (x y : Int64) : Int64 := if x / y * y ≤ x then x / y else x / y - 1
theorem s_R_down {F : Int64 → AS → Prop} {x y : Int64} (hy : ¬ y = 0) (k : F (ldown x y) st) : C κ M_R_down [.long x, .long y] st (RL F) := by
  unfold ldown at k
  refine e_R_down ?_
  refine b_R_down_0 (z1 := hy) (k2 := fun h0 => ?_) (k3 := fun h0 => ?_)
  · refine b_R_down_21 (k1 := ⟨_, rfl, (ite_t (P := fun z => F z st) h0 k)⟩)
  · refine b_R_down_14 (k1 := ⟨_, rfl, (ite_f (P := fun z => F z st) h0 k)⟩)
end Jdk
