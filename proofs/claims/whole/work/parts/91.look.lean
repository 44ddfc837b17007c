/-! a sheet looked at by a reader: both classes -/
theorem vn0 : vp_nar .boolean 0 = 0 := by decide
theorem vn1 : vp_nar .boolean 1 = 1 := by decide
section Look
variable {κ : Ko} {dt rt : AS} {a q s r t A Z : Nat} {L : List (Nat × Nat)} {K : List c4}
/-- a ridge's words -/
def wdR (S : Nat → Int32) (e0 e1 : Int32) (r : Nat) (v : Nat) : Int64 :=
  if v = 0 then (S (810 + 7 * r + 3) - S (810 + 7 * r + 2)).toInt64 else if v = 1 then (S (810 + 7 * r + 4)).toInt64 else if v = 2 then (S (810 + 7 * r + 6)).toInt64 else if v = 3 then (S (810 + 7 * r + 5)).toInt64
  else if v = 4 then (S (810 + 7 * r + 0)).toInt64 else if v = 5 then (S (810 + 7 * r + 1)).toInt64 else if v = 6 then ((if e0 = 0 then (0 : Int32) else 1) + (if e1 = 0 then (0 : Int32) else 1)).toInt64 else (S 5).toInt64
theorem d_rwords (h : SR κ dt a rt q s) (hr : r < nR (rw_ rt q s)) (hz : gr dt Z 2 = some a) (hZ : Z + 2 < a ∨ a + 3 < Z) {e0 e1 : Int32} (h0 : f_Sh_endsAtEdge κ a (nI r) 2 dt = some e0) (h1 : f_Sh_endsAtEdge κ a (nI r) 3 dt = some e1) :
    ∃ dt', f_Si_fillWords κ Z (nI r) dt = some dt' ∧ (∀ v, v < 8 → gl dt' (Z + 2) v = wdR (rw_ rt q s) e0 e1 r v) ∧ Same (fun p _ => p = Z + 2) dt dt' := by
  have hly := h.1.1
  have ds : ∀ st, (∀ p j, gi st p j = gi dt p j) → ∀ {u : Nat} {y : Int32}, u < 7 → y = nI u → f_Sh_ridgePart κ a (nI r) y st = some (rw_ rt q s (810 + 7 * r + u)) := fun st hst u y hu hy => by
    have := d_ridge h hr hu hy
    rw [f_Sh_ridgePart_eq] at this ⊢
    rw [show gi st (a + 2) = gi dt (a + 2) from funext (fun j => hst (a + 2) j)]
    exact this
  have dl : f_Sh_lengthOf κ a (nI r) dt = some (rw_ rt q s (810 + 7 * r + 3) - rw_ rt q s (810 + 7 * r + 2)) := d_len h hr
  have hr5 : ∀ st, (∀ p j, gi st p j = gi dt p j) → f_Sh_rounds κ a st = rw_ rt q s 5 := fun st hst => by
    unfold f_Sh_rounds
    rw [hst]
    exact h.1.2.1.2.2.2.2.1
  have D1 : ∀ v0, f_Sh_ridgePart κ a (nI r) 4 (ul dt (Z + 2) 0 v0) = some (rw_ rt q s (810 + 7 * r + 4)) := fun v0 => ds (ul dt (Z + 2) 0 v0) (fun _ _ => rfl) (u := 4) (y := 4) (by decide) rfl
  have D2 : ∀ v0 v1, f_Sh_ridgePart κ a (nI r) 6 (ul (ul dt (Z + 2) 0 v0) (Z + 2) 1 v1) = some (rw_ rt q s (810 + 7 * r + 6)) := fun v0 v1 => ds (ul (ul dt (Z + 2) 0 v0) (Z + 2) 1 v1) (fun _ _ => rfl) (u := 6) (y := 6) (by decide) rfl
  have D3 : ∀ v0 v1 v2, f_Sh_ridgePart κ a (nI r) 5 (ul (ul (ul dt (Z + 2) 0 v0) (Z + 2) 1 v1) (Z + 2) 2 v2) = some (rw_ rt q s (810 + 7 * r + 5)) := fun v0 v1 v2 => ds (ul (ul (ul dt (Z + 2) 0 v0) (Z + 2) 1 v1) (Z + 2) 2 v2) (fun _ _ => rfl) (u := 5) (y := 5) (by decide) rfl
  have D4 : ∀ v0 v1 v2 v3, f_Sh_ridgePart κ a (nI r) 0 (ul (ul (ul (ul dt (Z + 2) 0 v0) (Z + 2) 1 v1) (Z + 2) 2 v2) (Z + 2) 3 v3) = some (rw_ rt q s (810 + 7 * r + 0)) := fun v0 v1 v2 v3 => ds (ul (ul (ul (ul dt (Z + 2) 0 v0) (Z + 2) 1 v1) (Z + 2) 2 v2) (Z + 2) 3 v3) (fun _ _ => rfl) (u := 0) (y := 0) (by decide) rfl
  have D5 : ∀ v0 v1 v2 v3 v4, f_Sh_ridgePart κ a (nI r) 1 (ul (ul (ul (ul (ul dt (Z + 2) 0 v0) (Z + 2) 1 v1) (Z + 2) 2 v2) (Z + 2) 3 v3) (Z + 2) 4 v4) = some (rw_ rt q s (810 + 7 * r + 1)) := fun v0 v1 v2 v3 v4 => ds (ul (ul (ul (ul (ul dt (Z + 2) 0 v0) (Z + 2) 1 v1) (Z + 2) 2 v2) (Z + 2) 3 v3) (Z + 2) 4 v4) (fun _ _ => rfl) (u := 1) (y := 1) (by decide) rfl
  have D8 : ∀ v0 v1 v2 v3 v4 v5 v6, f_Sh_rounds κ a (ul (ul (ul (ul (ul (ul (ul dt (Z + 2) 0 v0) (Z + 2) 1 v1) (Z + 2) 2 v2) (Z + 2) 3 v3) (Z + 2) 4 v4) (Z + 2) 5 v5) (Z + 2) 6 v6) = rw_ rt q s 5 := fun v0 v1 v2 v3 v4 v5 v6 => hr5 (ul (ul (ul (ul (ul (ul (ul dt (Z + 2) 0 v0) (Z + 2) 1 v1) (Z + 2) 2 v2) (Z + 2) 3 v3) (Z + 2) 4 v4) (Z + 2) 5 v5) (Z + 2) 6 v6) (fun _ _ => rfl)
  unfold f_Si_fillWords
  have gp : ∀ (st : AS) (i : Int32) (j : Nat) (v : Int64), i = nI j → j < 8 → gputL st (Z + 2) 8 i v = ul st (Z + 2) j v := fun st i j v hi hj => gputL_n hi hj (by decide)
  rw [hz, bnd_t, grd_t hly, h0, bnd_t, bnd_t, grd_t hly, h1, bnd_t, bnd_t, grd_t hly, dl, bnd_t, gp _ 0 0 _ rfl (by decide)]
  rw [show ∀ st v, gr (ul st (Z + 2) 0 v) Z 2 = gr st Z 2 from fun _ _ => rfl, hz, bnd_t, grd_t hly, D1, bnd_t, gp _ 1 1 _ rfl (by decide)]
  rw [show ∀ st v, gr (ul st (Z + 2) 1 v) Z 2 = gr st Z 2 from fun _ _ => rfl, show ∀ st v, gr (ul st (Z + 2) 0 v) Z 2 = gr st Z 2 from fun _ _ => rfl, hz, bnd_t, grd_t hly, D2, bnd_t, gp _ 2 2 _ rfl (by decide)]
  rw [show ∀ v0 v1 v2, gr (ul (ul (ul dt (Z + 2) 0 v0) (Z + 2) 1 v1) (Z + 2) 2 v2) Z 2 = gr dt Z 2 from fun _ _ _ => rfl, hz, bnd_t, grd_t hly, D3, bnd_t, gp _ 3 3 _ rfl (by decide)]
  rw [show ∀ v0 v1 v2 v3, gr (ul (ul (ul (ul dt (Z + 2) 0 v0) (Z + 2) 1 v1) (Z + 2) 2 v2) (Z + 2) 3 v3) Z 2 = gr dt Z 2 from fun _ _ _ _ => rfl, hz, bnd_t, grd_t hly, D4, bnd_t, gp _ 4 4 _ rfl (by decide)]
  rw [show ∀ v0 v1 v2 v3 v4, gr (ul (ul (ul (ul (ul dt (Z + 2) 0 v0) (Z + 2) 1 v1) (Z + 2) 2 v2) (Z + 2) 3 v3) (Z + 2) 4 v4) Z 2 = gr dt Z 2 from fun _ _ _ _ _ => rfl, hz, bnd_t, grd_t hly, D5, bnd_t, gp _ 5 5 _ rfl (by decide), gp _ 6 6 _ rfl (by decide)]
  rw [show ∀ v0 v1 v2 v3 v4 v5 v6, gr (ul (ul (ul (ul (ul (ul (ul dt (Z + 2) 0 v0) (Z + 2) 1 v1) (Z + 2) 2 v2) (Z + 2) 3 v3) (Z + 2) 4 v4) (Z + 2) 5 v5) (Z + 2) 6 v6) Z 2 = gr dt Z 2 from fun _ _ _ _ _ _ _ => rfl, hz, bnd_t, grd_t hly, D8, gp _ 7 7 _ rfl (by decide)]
  refine ⟨_, rfl, fun v hv => ?_, ul8_same _ _ _ _ _ _ _ _ _ _⟩
  rw [gl_ul8 _ _ _ _ _ _ _ _ _ _ v hv]
  rfl
noncomputable def seesK (κ : Ko) (d : Nat) : Nat → Int32 → Int32 → Int32 → Int32 → Int32 → Int32 → AS → Option AS := fun v42 v44 v45 v46 v47 v48 v49 s50 => jn (fun (v54 : Int32) => grd (vp_in v46 400) (L_R_sees_8 κ d v42 v44 v45 (v46 + 1) (ui s50 (v42 + 15) (v46 : Int32).toNatClampNeg (vp_nar .boolean v54)))) fun j53 => jn (j53 (0 : Int32)) fun j52 => jn (if v49 = 0 then j53 (1 : Int32) else j52) fun j51 => if v48 = 0 then if v47 = 0 then j51 else j52 else j51
theorem seesK_e {d i : Nat} (hi : i < 400) (x2 x3 y5 y6 y7 : Int32) (st : AS) : seesK κ d q x2 x3 (nI i) y5 y6 y7 st = L_R_sees_8 κ d q x2 x3 (nI (i + 1)) (ui st (q + 15) i (ruE y5 y6 y7)) := by
  unfold seesK ruE
  simp only [jn_e, grd_t (vp_in_nI hi (show 400 < 2 ^ 31 by decide)), nI_clamp (show i < 2 ^ 31 by omega), vn0, vn1]
  rw [nI_1]
  by_cases h7 : y7 = 0
  · rw [if_pos h7, if_pos h7]
    by_cases h6 : y6 = 0
    · rw [if_pos h6, if_pos h6]
      by_cases h5 : y5 = 0
      · rw [if_pos h5, if_pos h5]
      · rw [if_neg h5, if_neg h5]
    · rw [if_neg h6, if_neg h6]
  · rw [if_neg h7, if_neg h7]
    by_cases h6 : y6 = 0
    · rw [if_pos h6]
      by_cases h5 : y5 = 0
      · rw [if_pos h5]
      · rw [if_neg h5]
    · rw [if_neg h6]
def r8 (st : AS) (p : Nat) (w : Nat → Int64) : AS := ul (ul (ul (ul (ul (ul (ul (ul st p 0 (w 0)) p 1 (w 1)) p 2 (w 2)) p 3 (w 3)) p 4 (w 4)) p 5 (w 5)) p 6 (w 6)) p 7 (w 7)
theorem r8_gl (st : AS) (p : Nat) (w : Nat → Int64) : ∀ v, v < 8 → gl (r8 st p w) p v = w v := fun v hv => by
  unfold r8
  rw [gl_ul8 _ _ _ _ _ _ _ _ _ _ v hv]
  have : v = 0 ∨ v = 1 ∨ v = 2 ∨ v = 3 ∨ v = 4 ∨ v = 5 ∨ v = 6 ∨ v = 7 := by omega
  rcases this with rfl | rfl | rfl | rfl | rfl | rfl | rfl | rfl <;> rfl
/-- the reference's way through one ridge -/
theorem r_rstep (h : SR κ dt a rt q s) (hr : r < nR (rw_ rt q s)) {e0 e1 : Int32} (h0 : f_R_isEdgeEnd κ q (nI s) (nI r) 0 rt = some e0) (h1 : f_R_isEdgeEnd κ q (nI s) (nI r) 1 rt = some e1) (d : Nat) (x3 : Int32) :
    L_R_sees_8 κ (d + 1) q (nI s) x3 (nI r) rt = L_R_sees_177 κ (seesK κ d) FU q (nI s) x3 (nI r) 0 0 0 0 (r8 rt (q + 13) (wdR (rw_ rt q s) e0 e1 r)) := by
  have hs := h.2.2
  have hn := h.nr
  have rR : ∀ st, (∀ p j, gi st p j = gi rt p j) → ∀ {u : Nat} {y : Int32}, u < 7 → y = nI u → f_R_ridgeOf κ q (nI s) (nI r) y st = some (rw_ rt q s (810 + 7 * r + u)) := fun st hst u y hu hy => by
    rw [r_ridge hs (by omega) hu hy]
    exact congrArg some (hst _ _)
  have rS : ∀ st, (∀ p j, gi st p j = gi rt p j) → ∀ {u : Nat} {y : Int32}, u < 10 → y = nI u → f_R_sheetOf κ q (nI s) y st = some (rw_ rt q s u) := fun st hst u y hu hy => by
    rw [r_sheet hs (by omega) hy]
    exact congrArg some (hst _ _)
  have k0 : (0 : Int32).toNatClampNeg = 0 := rfl
  have k1 : (1 : Int32).toNatClampNeg = 1 := rfl
  have k2 : (2 : Int32).toNatClampNeg = 2 := rfl
  have k3 : (3 : Int32).toNatClampNeg = 3 := rfl
  have k4 : (4 : Int32).toNatClampNeg = 4 := rfl
  have k5 : (5 : Int32).toNatClampNeg = 5 := rfl
  have k6 : (6 : Int32).toNatClampNeg = 6 := rfl
  have k7 : (7 : Int32).toNatClampNeg = 7 := rfl
  have v : ∀ j y, y = nI j → j < 8 → vp_in y 8 := fun j y hy hj => by rw [hy]; exact vp_in_nI hj (by decide)
  have E0 : ∀ v0 v1 v2 v3 v4 v5, f_R_isEdgeEnd κ q (nI s) (nI r) 0 (ul (ul (ul (ul (ul (ul rt (q + 13) 0 v0) (q + 13) 1 v1) (q + 13) 2 v2) (q + 13) 3 v3) (q + 13) 4 v4) (q + 13) 5 v5) = some e0 := fun _ _ _ _ _ _ => h0
  have E1 : ∀ v0 v1 v2 v3 v4 v5, f_R_isEdgeEnd κ q (nI s) (nI r) 1 (ul (ul (ul (ul (ul (ul rt (q + 13) 0 v0) (q + 13) 1 v1) (q + 13) 2 v2) (q + 13) 3 v3) (q + 13) 4 v4) (q + 13) 5 v5) = some e1 := fun _ _ _ _ _ _ => h1
  have R1 : ∀ v0, f_R_ridgeOf κ q (nI s) (nI r) 4 (ul rt (q + 13) 0 v0) = some (rw_ rt q s (810 + 7 * r + 4)) := fun v0 => rR (ul rt (q + 13) 0 v0) (fun _ _ => rfl) (u := 4) (y := 4) (by decide) rfl
  have R2 : ∀ v0 v1, f_R_ridgeOf κ q (nI s) (nI r) 6 (ul (ul rt (q + 13) 0 v0) (q + 13) 1 v1) = some (rw_ rt q s (810 + 7 * r + 6)) := fun v0 v1 => rR (ul (ul rt (q + 13) 0 v0) (q + 13) 1 v1) (fun _ _ => rfl) (u := 6) (y := 6) (by decide) rfl
  have R3 : ∀ v0 v1 v2, f_R_ridgeOf κ q (nI s) (nI r) 5 (ul (ul (ul rt (q + 13) 0 v0) (q + 13) 1 v1) (q + 13) 2 v2) = some (rw_ rt q s (810 + 7 * r + 5)) := fun v0 v1 v2 => rR (ul (ul (ul rt (q + 13) 0 v0) (q + 13) 1 v1) (q + 13) 2 v2) (fun _ _ => rfl) (u := 5) (y := 5) (by decide) rfl
  have R4 : ∀ v0 v1 v2 v3, f_R_ridgeOf κ q (nI s) (nI r) 0 (ul (ul (ul (ul rt (q + 13) 0 v0) (q + 13) 1 v1) (q + 13) 2 v2) (q + 13) 3 v3) = some (rw_ rt q s (810 + 7 * r + 0)) := fun v0 v1 v2 v3 => rR (ul (ul (ul (ul rt (q + 13) 0 v0) (q + 13) 1 v1) (q + 13) 2 v2) (q + 13) 3 v3) (fun _ _ => rfl) (u := 0) (y := 0) (by decide) rfl
  have R5 : ∀ v0 v1 v2 v3 v4, f_R_ridgeOf κ q (nI s) (nI r) 1 (ul (ul (ul (ul (ul rt (q + 13) 0 v0) (q + 13) 1 v1) (q + 13) 2 v2) (q + 13) 3 v3) (q + 13) 4 v4) = some (rw_ rt q s (810 + 7 * r + 1)) := fun v0 v1 v2 v3 v4 => rR (ul (ul (ul (ul (ul rt (q + 13) 0 v0) (q + 13) 1 v1) (q + 13) 2 v2) (q + 13) 3 v3) (q + 13) 4 v4) (fun _ _ => rfl) (u := 1) (y := 1) (by decide) rfl
  have R8 : ∀ v0 v1 v2 v3 v4 v5 v6, f_R_sheetOf κ q (nI s) 5 (ul (ul (ul (ul (ul (ul (ul rt (q + 13) 0 v0) (q + 13) 1 v1) (q + 13) 2 v2) (q + 13) 3 v3) (q + 13) 4 v4) (q + 13) 5 v5) (q + 13) 6 v6) = some (rw_ rt q s 5) := fun v0 v1 v2 v3 v4 v5 v6 => rS (ul (ul (ul (ul (ul (ul (ul rt (q + 13) 0 v0) (q + 13) 1 v1) (q + 13) 2 v2) (q + 13) 3 v3) (q + 13) 4 v4) (q + 13) 5 v5) (q + 13) 6 v6) (fun _ _ => rfl) (u := 5) (y := 5) (by decide) rfl
  rw [L_R_sees_8, rS rt (fun _ _ => rfl) (u := 7) (y := 7) (by decide) rfl, bnd_t, hn.1, if_neg (nI_ge hr (by omega)), r_len h hr, bnd_t, grd_t (v 0 0 rfl (by decide)), k0]
  rw [R1, bnd_t, grd_t (v 1 1 rfl (by decide)), k1]
  rw [R2, bnd_t, grd_t (v 2 2 rfl (by decide)), k2]
  rw [R3, bnd_t, grd_t (v 3 3 rfl (by decide)), k3]
  rw [R4, bnd_t, grd_t (v 4 4 rfl (by decide)), k4]
  rw [R5, bnd_t, grd_t (v 5 5 rfl (by decide)), k5]
  rw [E0, bnd_t, E1, bnd_t, grd_t (v 6 6 rfl (by decide)), k6]
  rw [R8, bnd_t, grd_t (v 7 7 rfl (by decide)), k7]
  rfl
def lkW (Z A p : Nat) : Prop := p = Z ∨ p = Z + 1 ∨ p = Z + 2 ∨ p = A + 1 + 3
def lkQ (q p j : Nat) : Prop := rkW q p j ∨ p = q + 13 ∨ p = q + 15
def LKI (κ : Ko) (dt0 rt0 : AS) (a q s Z A i : Nat) (dt rt : AS) : Prop := SR κ dt a rt q s ∧ gi dt Z 3 = nI (nR (rw_ rt q s)) ∧ gr dt Z 2 = some a ∧ (∀ r, r < i → gi dt (Z + 1) r = gi rt (q + 15) r ∧ (gi rt (q + 15) r = 0 ∨ gi rt (q + 15) r = 1)) ∧ Same (fun p _ => lkW Z A p) dt0 dt ∧ Same (lkQ q) rt0 rt
theorem ruV_01 {w : Nat → Int64} : ∀ n i b h, ruV w L K n i b h = 0 ∨ ruV w L K n i b h = 1
  | 0, i, b, h => by
    rw [ruV]
    by_cases h1 : h = 0
    · rw [if_pos h1]
      by_cases h2 : b = 0
      · rw [if_pos h2]; exact Or.inr rfl
      · rw [if_neg h2]; exact Or.inl rfl
    · rw [if_neg h1]; exact Or.inr rfl
  | n + 1, i, b, h => by
    rw [ruV]
    by_cases c0 : (kg K i).1 = 0
    · rw [if_pos c0]
      by_cases h1 : h = 0
      · rw [if_pos h1]
        by_cases hh : hol w L (kg K i) = true
        · rw [if_pos hh]; exact ruV_01 _ _ _ _
        · rw [if_neg hh]; exact ruV_01 _ _ _ _
      · rw [if_neg h1]; exact ruV_01 _ _ _ _
    · rw [if_neg c0]
      by_cases hh : hol w L (kg K i) = true
      · rw [if_pos hh]; exact Or.inl rfl
      · rw [if_neg hh]; exact ruV_01 _ _ _ _
theorem q_lookL (ht : t < 18) (hZ : Z + 2 < a ∨ a + 3 < Z) (hA : a + 3 < A ∧ Z + 2 < A) (hk : typd L) (hl : ∀ c, c ∈ K → ruleC L c) (hD : RUD dt A L K) (hQ : LWQ rt q t L K) : ∀ n i d e dt1 rt1, i + n = nR (rw_ rt q s) → n < d → n < e → LKI κ dt rt a q s Z A i dt1 rt1 →
    ∃ dt2 rt2, L_Si_look_15 κ d Z A (nI i) dt1 = some dt2 ∧ L_R_sees_8 κ e q (nI s) (nI t) (nI i) rt1 = some rt2 ∧ LKI κ dt rt a q s Z A (nR (rw_ rt q s)) dt2 rt2
  | 0, i, d, e, dt1, rt1, hi, hd, he, hI => by
    obtain ⟨d, rfl⟩ : ∃ z, d = z + 1 := ⟨d - 1, by omega⟩
    obtain ⟨e, rfl⟩ : ∃ z, e = z + 1 := ⟨e - 1, by omega⟩
    have hrow : rw_ rt1 q s = rw_ rt q s := rw_fr rfl hI.2.2.2.2.2 (fun j z => by unfold lkQ rkW at z; omega)
    have hn := hI.1.nr
    have hei : i = nR (rw_ rt q s) := by omega
    refine ⟨dt1, rt1, ?_, ?_, by rw [← hei]; exact hI⟩
    · rw [L_Si_look_15, hI.2.1, hrow, if_pos (nI_le (by omega) (by rw [hrow] at hn; omega))]
    · rw [L_R_sees_8, rs_any (k := 7) (y := 7) rfl hI.1.2.2 (by decide) rfl, bnd_t, hn.1, hrow, if_pos (nI_le (by omega) (by rw [hrow] at hn; omega))]
  | n + 1, i, d, e, dt1, rt1, hi, hd, he, hI => by
    obtain ⟨d, rfl⟩ : ∃ z, d = z + 1 := ⟨d - 1, by omega⟩
    obtain ⟨e, rfl⟩ : ∃ z, e = z + 1 := ⟨e - 1, by omega⟩
    obtain ⟨hSR, g3, g2, gs, wd, wr⟩ := hI
    have hrow : rw_ rt1 q s = rw_ rt q s := rw_fr rfl wr (fun j z => by unfold lkQ rkW at z; omega)
    have hn := hSR.nr
    have hi' : i < nR (rw_ rt1 q s) := by rw [hrow]; omega
    have hDf : ∀ {d1}, Same (fun p _ => lkW Z A p) dt d1 → RUD d1 A L K := fun {d1} w => ⟨hD.1.of w (fun z => by unfold lkW at z; omega) (fun _ z => by unfold lkW at z; omega) (fun _ z => by unfold lkW at z; omega), by
      refine ⟨by rw [(w A 4 (fun z => by unfold lkW at z; omega)).1]; exact hD.2.1, hD.2.2.1, fun k hk' => ?_⟩
      rw [(w (A + 5) k (fun z => by unfold lkW at z; omega)).1, (w (A + 6) k (fun z => by unfold lkW at z; omega)).1, (w (A + 7) k (fun z => by unfold lkW at z; omega)).1]
      exact hD.2.2.2 k hk'⟩
    have hQf : ∀ {r1}, Same (lkQ q) rt r1 → LWQ r1 q t L K := fun {r1} w => hQ.fr w (fun p j z y => by unfold tgQ at z; unfold lkQ rkW at y; omega)
    obtain ⟨e0, a0, b0⟩ := q_edgeEnd hSR hi' (e := 0) (by decide)
    obtain ⟨e1, a1, b1⟩ := q_edgeEnd hSR hi' (e := 1) (by decide)
    obtain ⟨d2, p1, p2, p3⟩ := d_rwords hSR hi' g2 hZ (e0 := e0) (e1 := e1) a0 a1
    have w2 : Same (fun p _ => lkW Z A p) dt d2 := wd.tr (p3.mono (fun p j z => by unfold lkW; omega))
    obtain ⟨d3, q1, q2⟩ := d_ru (κ := κ) (a3 := Z + 2) (hDf w2) hk hl (by omega) p2
    have w3 : Same (fun p _ => lkW Z A p) dt d3 := w2.tr (q2.mono (fun p j z => by unfold lkW; omega))
    have hr2 : Same (lkQ q) rt (r8 rt1 (q + 13) (wdR (rw_ rt1 q s) e0 e1 i)) := wr.tr ((ul8_same _ _ _ _ _ _ _ _ _ _).mono (fun p j z => Or.inr (Or.inl z)))
    obtain ⟨r3, y5, y6, y7, u1, u2, u3⟩ := r_ruL (κ := κ) ht hk hl (seesK κ e) (nI s) (nI i) K.length 0 FU 0 0 0 _ (by omega) (FUn (by have := hQ.2.2.1; omega)) (hQf hr2) (r8_gl _ _ _) (Or.inl rfl) (Or.inl rfl) (Or.inl rfl)
    rw [if_pos rfl] at u2
    generalize hv : ruV (wdR (rw_ rt1 q s) e0 e1 i) L K K.length 0 0 0 = v at *
    have hv01 : v = 0 ∨ v = 1 := by rw [← hv]; exact ruV_01 _ _ _ _
    have ev : (if v = 0 then (0 : Int32) else 1) = v := by rcases hv01 with rfl | rfl <;> rfl
    have wr3 : Same (lkQ q) rt (ui r3 (q + 15) i v) := (hr2.tr (u3.mono (fun p j z => Or.inl z))).ui (Or.inr (Or.inr rfl))
    have wd3 : Same (fun p _ => lkW Z A p) dt (ui d3 (Z + 1) i v) := w3.ui (Or.inr (Or.inl rfl))
    have wd3' : Same (fun p _ => lkW Z A p) dt1 (ui d3 (Z + 1) i v) := ((p3.mono (fun p j z => by unfold lkW; omega)).tr (q2.mono (fun p j z => by unfold lkW; omega))).ui (Or.inr (Or.inl rfl))
    have hrow3 : rw_ (ui r3 (q + 15) i v) q s = rw_ rt q s := rw_fr rfl wr3 (fun j z => by unfold lkQ rkW at z; omega)
    have hnn : nR (rw_ rt q s) ≤ 400 := by rw [← hrow]; exact hn.2
    obtain ⟨d4, r4, z1, z2, z3⟩ := q_lookL ht hZ hA hk hl hD hQ n (i + 1) d e (ui d3 (Z + 1) i v) (ui r3 (q + 15) i v) (by omega) (by omega) (by omega) ⟨⟨by
        rw [hrow3, ← hrow]
        exact hSR.1.fr wd3' (fun p j h1 h2 z => by unfold lkW at z; omega), by rw [hrow3, ← hrow]; exact hSR.2.1, hSR.2.2⟩, by
        rw [hrow3, ← hrow, ← g3, gi_ui, if_neg (by omega), (q2 Z 3 (by omega)).1, (p3 Z 3 (by omega)).1], by
        rw [gr_ui', (q2 Z 2 (by omega)).2.2, (p3 Z 2 (by omega)).2.2]; exact g2, fun r hr => by
        rw [gi_ui, gi_ui]
        by_cases z : r = i
        · rw [if_pos ⟨rfl, z⟩, if_pos ⟨rfl, z⟩]; exact ⟨rfl, hv01⟩
        · rw [if_neg (fun y => z y.2), if_neg (fun y => z y.2), (q2 (Z + 1) r (by omega)).1, (p3 (Z + 1) r (by omega)).1, (u3 (q + 15) r (fun y => by unfold rkW at y; omega)).1]
          exact gs r (by omega), wd3, wr3⟩
    refine ⟨d4, r4, ?_, ?_, z3⟩
    · rw [L_Si_look_15, g3, if_neg (nI_ge hi' (by omega)), p1, bnd_t, q1, bnd2_t, ev, gput_n (j := i) rfl (by omega) (by decide), nI_1]
      exact z1
    · refine (r_rstep hSR hi' (e0 := e0) (e1 := e1) b0 b1 _ _).trans (u1.trans ?_)
      rw [seesK_e (by omega), u2]
      exact z2
end Look
