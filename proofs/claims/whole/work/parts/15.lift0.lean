/-! functions that may fail, and the ends of a walk -/
noncomputable def grd {α : Type} (p : Prop) (e : Option α) : Option α := @ite _ p (Classical.propDecidable p) e none
theorem grd_t {α : Type} {p : Prop} {e : Option α} (h : p) : grd p e = e := by unfold grd; rw [if_pos h]
theorem grd_some {α : Type} {p : Prop} {e : Option α} {r : α} (h : grd p e = some r) : p ∧ e = some r := by
  unfold grd at h
  by_cases hp : p
  · rw [if_pos hp] at h; exact ⟨hp, h⟩
  · rw [if_neg hp] at h; cases h
def bnd {α β : Type} (o : Option α) (g : α → Option β) : Option β := match o with | none => none | some a => g a
theorem bnd_t {α β : Type} (a : α) (g : α → Option β) : bnd (some a) g = g a := rfl
theorem bnd_some {α β : Type} {o : Option α} {g : α → Option β} {r : β} (h : bnd o g = some r) : ∃ a, o = some a ∧ g a = some r := by
  cases o with
  | none => cases h
  | some a => exact ⟨a, rfl, h⟩
def bnd2 {α β : Type} (o : Option (α × AS)) (g : α → AS → Option β) : Option β := match o with | none => none | some p => g p.1 p.2
theorem bnd2_t {α β : Type} (a : α) (s : AS) (g : α → AS → Option β) : bnd2 (some (a, s)) g = g a s := rfl
theorem bnd2_some {α β : Type} {o : Option (α × AS)} {g : α → AS → Option β} {r : β} (h : bnd2 o g = some r) : ∃ a s, o = some (a, s) ∧ g a s = some r := by
  cases o with
  | none => cases h
  | some p => exact ⟨p.1, p.2, rfl, h⟩
def nul {α : Type} (o : Option Nat) (a : α) (f : Nat → α) : α := match o with | none => a | some c => f c
theorem nul_n {α : Type} {a r : α} {f : Nat → α} (h : nul none a f = r) : a = r := h
theorem nul_s {α : Type} {c : Nat} {a r : α} {f : Nat → α} (h : nul (some c) a f = r) : f c = r := h
def jn {α β : Type} (b : α) (f : α → β) : β := f b
theorem jn_some {α β : Type} {b : α} {f : α → β} {r : β} (h : jn b f = r) : ∃ j, j = b ∧ f j = r := ⟨b, rfl, h⟩
theorem nn_some {α : Type} {r : α} {P : Prop} (h : (none : Option α) = some r) : P := nomatch h
theorem if_t {α : Type} {c : Prop} [Decidable c] {a b r : α} (hc : c) (h : (if c then a else b) = r) : a = r := by rwa [if_pos hc] at h
theorem if_f {α : Type} {c : Prop} [Decidable c] {a b r : α} (hc : ¬ c) (h : (if c then a else b) = r) : b = r := by rwa [if_neg hc] at h
def FU : Nat := 100000
def vof (o : Option Nat) : Value := match o with | none => .null | some r => .ref r
theorem lfIP {F : Int32 → AS → Prop} {x v : Int32} {st : AS} (h : some x = some v) (k : F v st) : RI F (some (.int x)) st := by cases h; exact ⟨_, rfl, k⟩
theorem lfIPT {F : Int32 → AS → Prop} {x v : Int32} {st : AS} (h : x = v) (k : F v st) : RI F (some (.int x)) st := by cases h; exact ⟨_, rfl, k⟩
theorem lfI {F : Int32 → AS → Prop} {x v : Int32} {s s' : AS} (h : some (x, s) = some (v, s')) (k : F v s') : RI F (some (.int x)) s := by cases h; exact ⟨_, rfl, k⟩
theorem lfIT {F : Int32 → AS → Prop} {x v : Int32} {s s' : AS} (h : (x, s) = (v, s')) (k : F v s') : RI F (some (.int x)) s := by cases h; exact ⟨_, rfl, k⟩
theorem lfLP {F : Int64 → AS → Prop} {x v : Int64} {st : AS} (h : some x = some v) (k : F v st) : RL F (some (.long x)) st := by cases h; exact ⟨_, rfl, k⟩
theorem lfLPT {F : Int64 → AS → Prop} {x v : Int64} {st : AS} (h : x = v) (k : F v st) : RL F (some (.long x)) st := by cases h; exact ⟨_, rfl, k⟩
theorem lfL {F : Int64 → AS → Prop} {x v : Int64} {s s' : AS} (h : some (x, s) = some (v, s')) (k : F v s') : RL F (some (.long x)) s := by cases h; exact ⟨_, rfl, k⟩
theorem lfLT {F : Int64 → AS → Prop} {x v : Int64} {s s' : AS} (h : (x, s) = (v, s')) (k : F v s') : RL F (some (.long x)) s := by cases h; exact ⟨_, rfl, k⟩
theorem lfV {F : AS → Prop} {s s' : AS} (h : some s = some s') (k : F s') : RV F none s := by cases h; exact ⟨rfl, k⟩
theorem lfVT {F : AS → Prop} {s s' : AS} (h : s = s') (k : F s') : RV F none s := by cases h; exact ⟨rfl, k⟩
theorem lfRP {F : Value → AS → Prop} {x v : Nat} {st : AS} (h : some x = some v) (k : F (.ref v) st) : RR F (some (.ref x)) st := by cases h; exact ⟨_, rfl, k⟩
theorem lfRPT {F : Value → AS → Prop} {x v : Nat} {st : AS} (h : x = v) (k : F (.ref v) st) : RR F (some (.ref x)) st := by cases h; exact ⟨_, rfl, k⟩
theorem lfR0P {F : Value → AS → Prop} {v : Option Nat} {st : AS} (h : some none = some v) (k : F (vof v) st) : RR F (some .null) st := by cases h; exact ⟨_, rfl, k⟩
theorem lfR1P {F : Value → AS → Prop} {x : Nat} {v : Option Nat} {st : AS} (h : some (some x) = some v) (k : F (vof v) st) : RR F (some (.ref x)) st := by cases h; exact ⟨_, rfl, k⟩
theorem wi01 {a b c : Int64} : wi a b c = 0 ∨ wi a b c = 1 := by
  unfold wi
  split
  · exact Or.inl rfl
  · split
    · exact Or.inl rfl
    · exact Or.inr rfl
theorem ly_small {κ : Ko} {q k n : Nat} (h : ly κ q = (k, n)) : n < 2 ^ 31 := by
  have h1 : ∀ i, (layL.getD i (999, 0)).2 < 2 ^ 31 := by
    intro i
    by_cases hi : i < layL.length
    · have := (show ∀ i, i < layL.length → (layL.getD i (999, 0)).2 < 2 ^ 31 by decide +kernel) i hi
      exact this
    · rw [List.getD_eq_getElem?_getD, List.getElem?_eq_none (by omega)]; decide
  unfold ly lay at h
  by_cases hb : kB (kt κ) ≤ q
  · rw [if_pos hb] at h
    have := h1 (q - kB (kt κ))
    rw [h] at this
    exact this
  · rw [if_neg hb] at h
    have := congrArg Prod.snd h
    simp only at this
    omega
section Man
variable {κ : Ko} {st s' : AS}
theorem t_X_at {F : Int32 → AS → Prop} {a0 n0 : Nat} {x1 v : Int32} (q : ly κ a0 = (50, n0)) (h : gat (gi st a0) n0 x1 = v) (k : F v st) : C κ M_X_at [.ref a0, .int x1] st (RI F) := s_X_at q (ly_small q) (by rw [h]; exact k)
theorem t_X_atL {F : Int64 → AS → Prop} {a0 n0 : Nat} {x1 : Int32} {v : Int64} (q : ly κ a0 = (51, n0)) (h : gatL (gl st a0) n0 x1 = v) (k : F v st) : C κ M_X_atL [.ref a0, .int x1] st (RL F) := s_X_atL q (ly_small q) (by rw [h]; exact k)
theorem t_X_put {F : AS → Prop} {a0 n0 : Nat} {x1 x2 : Int32} (q : ly κ a0 = (50, n0)) (h : gput st a0 n0 x1 x2 = s') (k : F s') : C κ M_X_put [.ref a0, .int x1, .int x2] st (RV F) := s_X_put q (ly_small q) (by rw [h]; exact k)
theorem t_X_putL {F : AS → Prop} {a0 n0 : Nat} {x1 : Int32} {y2 : Int64} (q : ly κ a0 = (51, n0)) (h : gputL st a0 n0 x1 y2 = s') (k : F s') : C κ M_X_putL [.ref a0, .int x1, .long y2] st (RV F) := s_X_putL q (ly_small q) (by rw [h]; exact k)
theorem t_X_within {F : Int32 → AS → Prop} {a b c : Int64} {v : Int32} (h : wi a b c = v) (k : F v st) : C κ M_X_within [.long a, .long b, .long c] st (RI F) := s_X_within (by rw [h]; exact k)
theorem t_R_in {F : Int32 → AS → Prop} {a b c : Int64} {v : Int32} (h : wi a b c = v) (k : F v st) : C κ M_R_in [.long a, .long b, .long c] st (RI F) := s_R_in (by rw [h]; exact k)
theorem t_Jm_max {F : Int32 → AS → Prop} {x y v : Int32} (h : imax x y = v) (k : F v st) : C κ M_Jm_max [.int x, .int y] st (RI F) := s_Jm_max (by rw [h]; exact k)
theorem t_Jm_min {F : Int32 → AS → Prop} {x y v : Int32} (h : imin x y = v) (k : F v st) : C κ M_Jm_min [.int x, .int y] st (RI F) := s_Jm_min (by rw [h]; exact k)
theorem t_Jm_abs {F : Int32 → AS → Prop} {x v : Int32} (h : iabs x = v) (k : F v st) : C κ M_Jm_abs [.int x] st (RI F) := s_Jm_abs (by rw [h]; exact k)
theorem t_R_size {F : Int32 → AS → Prop} {x v : Int32} (h : iabs x = v) (k : F v st) : C κ M_R_size [.int x] st (RI F) := s_R_size (by rw [h]; exact k)
theorem t_Jm_maxL {F : Int64 → AS → Prop} {x y v : Int64} (h : lmax x y = v) (k : F v st) : C κ M_Jm_maxL [.long x, .long y] st (RL F) := s_Jm_maxL (by rw [h]; exact k)
theorem t_Jm_minL {F : Int64 → AS → Prop} {x y v : Int64} (h : lmin x y = v) (k : F v st) : C κ M_Jm_minL [.long x, .long y] st (RL F) := s_Jm_minL (by rw [h]; exact k)
theorem t_X_held {F : Int64 → AS → Prop} {x lo hi v : Int64} (h : lmax lo (lmin hi x) = v) (k : F v st) : C κ M_X_held [.long x, .long lo, .long hi] st (RL F) := s_X_held (by rw [h]; exact k)
theorem t_R_bounded {F : Int64 → AS → Prop} {x lo hi v : Int64} (h : lbnd x lo hi = v) (k : F v st) : C κ M_R_bounded [.long x, .long lo, .long hi] st (RL F) := s_R_bounded (by rw [h]; exact k)
noncomputable def f_Jm_floorDiv (_ : Ko) (x0 x1 : Int32) (_ : AS) : Option Int32 := grd (¬ x1 = 0) (some (ifl x0 x1))
theorem t_Jm_floorDiv {F : Int32 → AS → Prop} {x y v : Int32} (h : f_Jm_floorDiv κ x y st = some v) (k : F v st) : C κ M_Jm_floorDiv [.int x, .int y] st (RI F) := by
  obtain ⟨h1, h⟩ := grd_some h
  exact s_Jm_floorDiv h1 (by rw [Option.some.inj h]; exact k)
noncomputable def f_R_down (_ : Ko) (y0 y2 : Int64) (_ : AS) : Option Int64 := grd (¬ y2 = 0) (some (ldown y0 y2))
theorem t_R_down {F : Int64 → AS → Prop} {x y v : Int64} (h : f_R_down κ x y st = some v) (k : F v st) : C κ M_R_down [.long x, .long y] st (RL F) := by
  obtain ⟨h1, h⟩ := grd_some h
  exact s_R_down h1 (by rw [Option.some.inj h]; exact k)
theorem t_Js_length {F : Int32 → AS → Prop} {i : Nat} {v : Int32} (hi : i < 11) (h : nI (litN.getD i 0) = v) (k : F v st) : C κ M_Js_length [.ref (kK (kt κ) i)] st (RI F) := c_Js_length hi (by rw [h]; exact k)
noncomputable def f_Js_charAt (_ : Ko) (i : Nat) (x : Int32) (_ : AS) : Option Int32 := grd (x = nI x.toNatClampNeg ∧ x.toNatClampNeg < litN.getD i 0) (some (litC i x.toNatClampNeg))
theorem t_Js_charAt {F : Int32 → AS → Prop} {i : Nat} {x v : Int32} (hi : i < 11) (h : f_Js_charAt κ i x st = some v) (k : F v st) : C κ M_Js_charAt [.ref (kK (kt κ) i), .int x] st (RI F) := by
  obtain ⟨⟨h1, h2⟩, h⟩ := grd_some h
  rw [h1]
  exact c_Js_charAt hi h2 (by rw [Option.some.inj h]; exact k)
theorem imin_n {a b : Nat} (ha : a < 2 ^ 31) (hb : b < 2 ^ 31) : imin (nI a) (nI b) = nI (min a b) := by
  have e : nI b < nI a ↔ b < a := by
    rw [i32lt, nI_toInt ha, nI_toInt hb]
    omega
  unfold imin
  by_cases h : b < a
  · rw [if_pos (e.mpr h), Nat.min_eq_right (by omega)]
  · rw [if_neg (fun z => h (e.mp z)), Nat.min_eq_left (by omega)]
theorem t_X_copy {F : AS → Prop} {a0 n0 a1 n1 : Nat} (q0 : ly κ a0 = (50, n0)) (q1 : ly κ a1 = (50, n1)) (h : cpi st a0 a1 (min n0 n1) = s') (k : F s') : C κ M_X_copy [.ref a0, .ref a1] st (RV F) := by
  have h0 := ly_small q0
  have h1 := ly_small q1
  have hm : min n0 n1 < 2 ^ 31 := Nat.lt_of_le_of_lt (Nat.min_le_left _ _) h0
  have hc : (nI (min n0 n1)).toNatClampNeg = min n0 n1 := nI_clamp (by omega)
  refine e_X_copy (b_X_copy_0 (l_a0 := q0) (l_a1 := q1) (k1 := t_Jm_min (imin_n h0 h1) ?_))
  refine b_X_copy_11 (l_c0 := q0) (l_c2 := q1) (e1 := rfl) (e2 := rfl) (z3 := nI_pos (by omega)) (z4 := by rw [hc]; exact Nat.min_le_left _ _) (z5 := by rw [hc]; exact Nat.min_le_right _ _) (k6 := ⟨rfl, ?_⟩)
  rw [hc, h]
  exact k
end Man
