section Words2
variable {κ : Ko} {dt rt : AS} {a q s f : Nat} {S : Nat → Int32}
theorem ShD.fr (h : ShD κ dt a S) {dt' : AS} {W : Nat → Nat → Prop} (hw : Same W dt dt') (h0 : ∀ p j, a ≤ p → p ≤ a + 3 → ¬ W p j) : ShD κ dt' a S := by
  obtain ⟨h1, ⟨g0, g1, g2, g3, g4, g5, g6, g7, g8⟩, h3, h4, h5, h6⟩ := h
  have e0 : ∀ j, gi dt' a j = gi dt a j := fun j => (hw _ _ (h0 _ _ (by omega) (by omega))).1
  refine ⟨h1, ⟨by rw [e0]; exact g0, by rw [e0]; exact g1, g2, by rw [(hw _ _ (h0 _ _ (by omega) (by omega))).2.1]; exact g3, by rw [e0]; exact g4, by rw [e0]; exact g5, by rw [e0]; exact g6, by rw [e0]; exact g7, by rw [e0]; exact g8⟩, by rw [(hw _ _ (h0 _ _ (by omega) (by omega))).2.2]; exact h3, fun f hf p hp => by rw [(hw _ _ (h0 _ _ (by omega) (by omega))).1]; exact h4 f hf p hp, fun r hr p hp => by rw [(hw _ _ (h0 _ _ (by omega) (by omega))).1]; exact h5 r hr p hp, fun k hk h0' => by rw [(hw _ _ (h0 _ _ (by omega) (by omega))).1]; exact h6 k hk h0'⟩
theorem gl_ul8 (st : AS) (p : Nat) (v0 v1 v2 v3 v4 v5 v6 v7 : Int64) (v : Nat) (hv : v < 8) : gl (ul (ul (ul (ul (ul (ul (ul (ul st p 0 v0) p 1 v1) p 2 v2) p 3 v3) p 4 v4) p 5 v5) p 6 v6) p 7 v7) p v = (if v = 0 then v0 else if v = 1 then v1 else if v = 2 then v2 else if v = 3 then v3 else if v = 4 then v4 else if v = 5 then v5 else if v = 6 then v6 else v7) := by
  have : v = 0 ∨ v = 1 ∨ v = 2 ∨ v = 3 ∨ v = 4 ∨ v = 5 ∨ v = 6 ∨ v = 7 := by omega
  rcases this with rfl | rfl | rfl | rfl | rfl | rfl | rfl | rfl <;> simp [gl_ul]
theorem ul8_same (st : AS) (p : Nat) (v0 v1 v2 v3 v4 v5 v6 v7 : Int64) : Same (fun p' _ => p' = p) st (ul (ul (ul (ul (ul (ul (ul (ul st p 0 v0) p 1 v1) p 2 v2) p 3 v3) p 4 v4) p 5 v5) p 6 v6) p 7 v7) :=
  ((((((((Same.rf (fun p' _ => p' = p) st).ul rfl).ul rfl).ul rfl).ul rfl).ul rfl).ul rfl).ul rfl).ul rfl
theorem d_words (h : ShD κ dt a S) (hk : SOK S) (hf : f < nF S) (tg rd tot : Int32) : ∃ dt', f_Sh_fillWords κ a (nI f) tg rd tot dt = some dt' ∧ (∀ v, v < 8 → gl dt' (a + 4) v = wdS S f rd tg tot v) ∧ Same (fun p _ => p = a + 4) dt dt' := by
  have p1 : ∀ p j v st, f_Sh_shortOf κ a (nI f) (ul st p j v) = f_Sh_shortOf κ a (nI f) st := fun _ _ _ _ => rfl
  have p2 : ∀ p j v st, f_Sh_areaOf κ a (nI f) (ul st p j v) = f_Sh_areaOf κ a (nI f) st := fun _ _ _ _ => rfl
  have p3 : ∀ p j v st, f_Sh_edgeOf κ a (nI f) (ul st p j v) = f_Sh_edgeOf κ a (nI f) st := fun _ _ _ _ => rfl
  have p4 : ∀ p j v st, f_Sh_wayOf κ a (nI f) (ul st p j v) = f_Sh_wayOf κ a (nI f) st := fun _ _ _ _ => rfl
  have gp_ : ∀ (i : Int32) (j : Nat) (st : AS) (v : Int64), i = nI j → j < 8 → gputL st (a + 4) 8 i v = ul st (a + 4) j v := fun i j st v hi hj => gputL_n hi hj (by decide)
  unfold f_Sh_fillWords
  rw [d_longS h hk hf, bnd_t, gp_ 0 0 _ _ rfl (by decide), p1, d_shortS h hk hf, bnd_t, gp_ 1 1 _ _ rfl (by decide), p2, p2, d_areaS h hk hf, bnd_t, gp_ 2 2 _ _ rfl (by decide), gp_ 3 3 _ _ rfl (by decide), gp_ 4 4 _ _ rfl (by decide), p3, p3, p3, p3, p3, d_edgeS h hk hf, bnd_t, gp_ 5 5 _ _ rfl (by decide), p4, p4, p4, p4, p4, p4, d_wayS h hk hf, bnd_t, gp_ 6 6 _ _ rfl (by decide), gp_ 7 7 _ _ rfl (by decide)]
  exact ⟨_, rfl, fun v hv => gl_ul8 _ _ _ _ _ _ _ _ _ _ v hv, ul8_same _ _ _ _ _ _ _ _ _ _⟩
theorem area64 (hk : SOK S) (hf : f < nF S) : (lngS S f).toInt64 * (shtS S f).toInt64 = (S (10 + 4 * f + 2) * S (10 + 4 * f + 3)).toInt64 := by
  obtain ⟨-, -, w, h⟩ := hk.2.1 f hf
  obtain ⟨m, e1, m1, m2⟩ := w
  obtain ⟨n, e2, n1, n2⟩ := h
  have hmn : m * n ≤ 200 * 200 := Nat.mul_le_mul m2 n2
  have hk1 := nI_ltk (m := m) (k := n) rfl (by omega) (by omega)
  have t : ∀ x y : Nat, x ≤ 200 → y ≤ 200 → (nI x).toInt64 * (nI y).toInt64 = (nI (x * y)).toInt64 := fun x y hx hy => by
    have hxy : x * y ≤ 200 * 200 := Nat.mul_le_mul hx hy
    rw [nI_l (by omega), nI_l (by omega), nI_l (by omega), lN_mul]
  unfold lngS shtS imax imin
  rw [e1, e2, nI_mul]
  by_cases hc : m < n
  · rw [if_pos (hk1.1.mpr hc), if_neg (fun z => by have := (nI_ltk (m := n) (k := m) rfl (by omega) (by omega)).1.mp z; omega), t n m n2 m2, Nat.mul_comm]
  · rw [if_neg (fun z => hc (hk1.1.mp z))]
    by_cases hd : n < m
    · rw [if_pos ((nI_ltk (m := n) (k := m) rfl (by omega) (by omega)).1.mpr hd), t m n m2 n2]
    · rw [if_neg (fun z => hd ((nI_ltk (m := n) (k := m) rfl (by omega) (by omega)).1.mp z)), show n = m by omega, t m m m2 m2]
theorem r_words (h : rw_ rt q s = S) (hk : SOK S) (hs : s < 7) (hf : f < nF S) (rd tg tot : Int32) : ∃ rt', f_R_facetWords κ q (nI s) (nI f) rd tg tot rt = some rt' ∧ (∀ v, v < 8 → gl rt' (q + 13) v = wdS S f rd tg tot v) ∧ Same (fun p _ => p = q + 13) rt rt' := by
  have p1 : ∀ p j v st, f_R_shortSide κ q (nI s) (nI f) (ul st p j v) = f_R_shortSide κ q (nI s) (nI f) st := fun _ _ _ _ => rfl
  have p3 : ∀ p j v st, f_R_edgeOf κ q (nI s) (nI f) (ul st p j v) = f_R_edgeOf κ q (nI s) (nI f) st := fun _ _ _ _ => rfl
  have p4 : ∀ p j v st, f_R_wayOf κ q (nI s) (nI f) (ul st p j v) = f_R_wayOf κ q (nI s) (nI f) st := fun _ _ _ _ => rfl
  have hv : ∀ (x : Int32) (k : Nat), x = nI k → k < 8 → vp_in x 8 := fun x k hx hk => by rw [hx]; exact vp_in_nI hk (by decide)
  unfold f_R_facetWords
  rw [r_longS h hk hs hf, bnd_t, p1, r_shortS h hk hs hf, bnd_t, p3, p3, p3, p3, p3, r_edgeS h hk hs hf, bnd_t, p4, p4, p4, p4, p4, p4, r_wayS h hk hs hf, bnd_t, grd_t (hv 0 0 rfl (by decide)), grd_t (hv 1 1 rfl (by decide)), grd_t (hv 0 0 rfl (by decide)), grd_t (hv 1 1 rfl (by decide)), grd_t (hv 2 2 rfl (by decide)), grd_t (hv 3 3 rfl (by decide)), grd_t (hv 4 4 rfl (by decide)), grd_t (hv 5 5 rfl (by decide)), grd_t (hv 6 6 rfl (by decide)), grd_t (hv 7 7 rfl (by decide)), show (0 : Int32).toNatClampNeg = 0 from rfl, show (1 : Int32).toNatClampNeg = 1 from rfl, show (2 : Int32).toNatClampNeg = 2 from rfl, show (3 : Int32).toNatClampNeg = 3 from rfl, show (4 : Int32).toNatClampNeg = 4 from rfl, show (5 : Int32).toNatClampNeg = 5 from rfl, show (6 : Int32).toNatClampNeg = 6 from rfl, show (7 : Int32).toNatClampNeg = 7 from rfl, gl_ul, if_neg (fun z => by omega), gl_ul, if_pos ⟨rfl, rfl⟩, gl_ul, if_pos ⟨rfl, rfl⟩, area64 hk hf]
  exact ⟨_, rfl, fun v hv => gl_ul8 _ _ _ _ _ _ _ _ _ _ v hv, ul8_same _ _ _ _ _ _ _ _ _ _⟩
end Words2
