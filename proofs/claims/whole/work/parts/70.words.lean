/-! a facet's words, both classes; each side by itself -/
/-- a store in which only a row lies -/
def rowSt (S : Nat → Int32) : AS := (fun _ j => S j, fun _ _ => 0, fun _ _ => none)
theorem rowSt_rw (S : Nat → Int32) : rw_ (rowSt S) 0 0 = S := by
  funext k
  show S (3680 * 0 + k) = S k
  rw [Nat.mul_zero, Nat.zero_add]
/-- a store in which only the trial sheet lies -/
noncomputable def shSt (κ : Ko) (S : Nat → Int32) : AS :=
  (fun p j => if p = kB (kt κ) + 54 then (if j = 8 then S 0 else if j = 9 then S 1 else if j = 10 then S 5 else if j = 11 then S 6 else if j = 12 then S 7 else if j = 5 then S 8 else S 9) else if p = kB (kt κ) + 54 + 1 then S (10 + j) else if p = kB (kt κ) + 54 + 2 then S (810 + j) else S (3610 + j), fun _ _ => (S 4).toInt64, fun _ _ => some (LA κ (S 2).toNatClampNeg))
theorem ly_sh {κ : Ko} {i : Nat} (hi : i = 54 ∨ i = 23 ∨ i = 28 ∨ i = 33 ∨ i = 38 ∨ i = 43 ∨ i = 48) : ly κ (kB (kt κ) + i) = (8, 14) := by
  unfold ly lay
  rw [if_pos (by omega), Nat.add_sub_cancel_left]
  rcases hi with rfl | rfl | rfl | rfl | rfl | rfl | rfl <;> decide +kernel
theorem shSt_sh (κ : Ko) (S : Nat → Int32) : ShD κ (shSt κ S) (kB (kt κ) + 54) S := by
  have e0 : ∀ j, gi (shSt κ S) (kB (kt κ) + 54) j = (if j = 8 then S 0 else if j = 9 then S 1 else if j = 10 then S 5 else if j = 11 then S 6 else if j = 12 then S 7 else if j = 5 then S 8 else S 9) := fun j => if_pos rfl
  have e1 : ∀ j, gi (shSt κ S) (kB (kt κ) + 54 + 1) j = S (10 + j) := fun j => by
    show (if _ then _ else _) = _
    rw [if_neg (by omega), if_pos rfl]
  have e2 : ∀ j, gi (shSt κ S) (kB (kt κ) + 54 + 2) j = S (810 + j) := fun j => by
    show (if _ then _ else _) = _
    rw [if_neg (by omega), if_neg (by omega), if_pos rfl]
  have e3 : ∀ j, gi (shSt κ S) (kB (kt κ) + 54 + 3) j = S (3610 + j) := fun j => by
    show (if _ then _ else _) = _
    rw [if_neg (by omega), if_neg (by omega), if_neg (by omega)]
  refine ⟨ly_sh (Or.inl rfl), ⟨by rw [e0]; rfl, by rw [e0]; rfl, trivial, rfl, by rw [e0]; rfl, by rw [e0]; rfl, by rw [e0]; rfl, by rw [e0]; rfl, by rw [e0]; rfl⟩, rfl, fun f _ p _ => by rw [e1, Nat.add_assoc], fun r _ p _ => by rw [e2, Nat.add_assoc], fun k _ _ => e3 k⟩
theorem SRd {κ : Ko} {dt : AS} {a : Nat} {S : Nat → Int32} (h : ShD κ dt a S) (hk : SOK S) : SR κ dt a (rowSt S) 0 0 := ⟨by rw [rowSt_rw]; exact h, by rw [rowSt_rw]; exact hk, by decide⟩
theorem SRr (κ : Ko) {rt : AS} {q s : Nat} {S : Nat → Int32} (h : rw_ rt q s = S) (hk : SOK S) (hs : s < 7) : SR κ (shSt κ S) (kB (kt κ) + 54) rt q s := by
  subst h
  exact ⟨shSt_sh κ _, hk, hs⟩
def lngS (S : Nat → Int32) (f : Nat) : Int32 := imax (S (10 + 4 * f + 2)) (S (10 + 4 * f + 3))
def shtS (S : Nat → Int32) (f : Nat) : Int32 := imin (S (10 + 4 * f + 2)) (S (10 + 4 * f + 3))
def edS (S : Nat → Int32) (f : Nat) : Int32 := if S (10 + 4 * f + 1) + S (10 + 4 * f + 3) = S 1 then (((if S (10 + 4 * f + 0) = 0 then (1 : Int32) else 0) + (if S (10 + 4 * f + 1) = 0 then (1 : Int32) else 0)) + (if S (10 + 4 * f + 0) + S (10 + 4 * f + 2) = S 0 then (1 : Int32) else 0)) + 1 else (((if S (10 + 4 * f + 0) = 0 then (1 : Int32) else 0) + (if S (10 + 4 * f + 1) = 0 then (1 : Int32) else 0)) + (if S (10 + 4 * f + 0) + S (10 + 4 * f + 2) = S 0 then (1 : Int32) else 0)) + 0
/-- the words of a facet -/
def wdS (S : Nat → Int32) (f : Nat) (rd tg tot : Int32) (v : Nat) : Int64 := if v = 0 then (lngS S f).toInt64 else if v = 1 then (shtS S f).toInt64 else if v = 2 then (S (10 + 4 * f + 2) * S (10 + 4 * f + 3)).toInt64 else if v = 3 then rd.toInt64 else if v = 4 then tg.toInt64 else if v = 5 then (edS S f).toInt64 else if v = 6 then (wayS S f).toInt64 else tot.toInt64
section Words
variable {κ : Ko} {dt rt : AS} {a q s f : Nat} {S : Nat → Int32}
theorem d_longS (h : ShD κ dt a S) (hk : SOK S) (hf : f < nF S) : f_Sh_longOf κ a (nI f) dt = some (lngS S f) := by
  have := d_long (SRd h hk) (f := f) (by rw [rowSt_rw]; exact hf)
  rw [rowSt_rw] at this
  exact this
theorem d_shortS (h : ShD κ dt a S) (hk : SOK S) (hf : f < nF S) : f_Sh_shortOf κ a (nI f) dt = some (shtS S f) := by
  have := d_short (SRd h hk) (f := f) (by rw [rowSt_rw]; exact hf)
  rw [rowSt_rw] at this
  exact this
theorem d_wayS (h : ShD κ dt a S) (hk : SOK S) (hf : f < nF S) : f_Sh_wayOf κ a (nI f) dt = some (wayS S f) := by
  have := d_way (SRd h hk) (f := f) (by rw [rowSt_rw]; exact hf)
  rw [rowSt_rw] at this
  exact this
theorem d_areaS (h : ShD κ dt a S) (hk : SOK S) (hf : f < nF S) : f_Sh_areaOf κ a (nI f) dt = some (S (10 + 4 * f + 2) * S (10 + 4 * f + 3)) := by
  have := d_area (SRd h hk) (f := f) (by rw [rowSt_rw]; exact hf)
  rw [rowSt_rw] at this
  exact this
theorem r_longS (h : rw_ rt q s = S) (hk : SOK S) (hs : s < 7) (hf : f < nF S) : f_R_longSide κ q (nI s) (nI f) rt = some (lngS S f) := by
  have := r_long (SRr κ h hk hs) (f := f) (by rw [h]; exact hf)
  rw [h] at this
  exact this
theorem r_shortS (h : rw_ rt q s = S) (hk : SOK S) (hs : s < 7) (hf : f < nF S) : f_R_shortSide κ q (nI s) (nI f) rt = some (shtS S f) := by
  have := r_short (SRr κ h hk hs) (f := f) (by rw [h]; exact hf)
  rw [h] at this
  exact this
theorem r_wayS (h : rw_ rt q s = S) (hk : SOK S) (hs : s < 7) (hf : f < nF S) : f_R_wayOf κ q (nI s) (nI f) rt = some (wayS S f) := by
  have := r_way (SRr κ h hk hs) (f := f) (by rw [h]; exact hf)
  rw [h] at this
  exact this
theorem r_edge' (h : SR κ dt a rt q s) (hf : f < nF (rw_ rt q s)) : f_R_edgeOf κ q (nI s) (nI f) rt = some (edS (rw_ rt q s) f) := by
  unfold f_R_edgeOf edS
  simp only [rf0 h hf, rf1 h hf, rf2 h hf, rf3 h hf, rs0 h, rs1 h, bnd_t]
theorem r_edgeS (h : rw_ rt q s = S) (hk : SOK S) (hs : s < 7) (hf : f < nF S) : f_R_edgeOf κ q (nI s) (nI f) rt = some (edS S f) := by
  have := r_edge' (SRr κ h hk hs) (f := f) (by rw [h]; exact hf)
  rw [h] at this
  exact this
theorem d_edgeS (h : ShD κ dt a S) (hk : SOK S) (hf : f < nF S) : f_Sh_edgeOf κ a (nI f) dt = some (edS S f) := by
  have h1 := SRd h hk
  obtain ⟨v, e1, e2⟩ := q_edge h1 (f := f) (by rw [rowSt_rw]; exact hf)
  have e3 := r_edge' h1 (f := f) (by rw [rowSt_rw]; exact hf)
  rw [rowSt_rw] at e3
  rw [e1, ← e2, e3]
end Words
