/-! what the class does to its own sheet -/
def Same (W : Nat → Nat → Prop) (st st' : AS) : Prop := ∀ p j, ¬ W p j → gi st' p j = gi st p j ∧ gl st' p j = gl st p j ∧ gr st' p j = gr st p j
theorem Same.rf (W : Nat → Nat → Prop) (st : AS) : Same W st st := fun _ _ _ => ⟨rfl, rfl, rfl⟩
theorem Same.tr {W : Nat → Nat → Prop} {s1 s2 s3 : AS} (h : Same W s1 s2) (h' : Same W s2 s3) : Same W s1 s3 := fun p j hp =>
  ⟨(h' p j hp).1.trans (h p j hp).1, (h' p j hp).2.1.trans (h p j hp).2.1, (h' p j hp).2.2.trans (h p j hp).2.2⟩
theorem Same.mono {W W' : Nat → Nat → Prop} {s1 s2 : AS} (h : Same W s1 s2) (hw : ∀ p j, W p j → W' p j) : Same W' s1 s2 := fun p j hp => h p j (fun z => hp (hw p j z))
theorem Same.ui {W : Nat → Nat → Prop} {s1 s2 : AS} {p j : Nat} {v : Int32} (h : Same W s1 s2) (hp : W p j) : Same W s1 (ui s2 p j v) := h.tr (fun p' j' hp' => ⟨by rw [gi_ui, if_neg (fun z => hp' (by rw [z.1, z.2]; exact hp))], rfl, rfl⟩)
theorem Same.ul {W : Nat → Nat → Prop} {s1 s2 : AS} {p j : Nat} {v : Int64} (h : Same W s1 s2) (hp : W p j) : Same W s1 (ul s2 p j v) := h.tr (fun p' j' hp' => ⟨rfl, by rw [gl_ul, if_neg (fun z => hp' (by rw [z.1, z.2]; exact hp))], rfl⟩)
theorem Same.ur {W : Nat → Nat → Prop} {s1 s2 : AS} {p j : Nat} {v : Option Nat} (h : Same W s1 s2) (hp : W p j) : Same W s1 (ur s2 p j v) := h.tr (fun p' j' hp' => ⟨rfl, rfl, by rw [gr_ur, if_neg (fun z => hp' (by rw [z.1, z.2]; exact hp))]⟩)
theorem Same.gput {W : Nat → Nat → Prop} {s1 s2 : AS} {p n : Nat} {i v : Int32} (h : Same W s1 s2) (hp : ∀ j, W p j) : Same W s1 (gput s2 p n i v) := by
  unfold Pilot.@@N@@.gput
  split
  · exact h
  · split
    · exact h
    · exact h.ui (hp _)
theorem Same.gputL {W : Nat → Nat → Prop} {s1 s2 : AS} {p n : Nat} {i : Int32} {v : Int64} (h : Same W s1 s2) (hp : ∀ j, W p j) : Same W s1 (gputL s2 p n i v) := by
  unfold Pilot.@@N@@.gputL
  split
  · exact h
  · split
    · exact h
    · exact h.ul (hp _)
/-- the sheet's own cells (its seed aside), and the laws' waiting rows -/
def shW (κ : Ko) (a p j : Nat) : Prop := ((a ≤ p ∧ p < a + 5) ∧ ¬ (p = a ∧ j = 7)) ∨ ∃ l, l < 6 ∧ p = LA κ l + 4
theorem shW_1 {κ : Ko} {a j : Nat} (k : Nat) (h0 : 0 < k) (h : k < 5) : shW κ a (a + k) j := Or.inl ⟨⟨by omega, by omega⟩, fun z => by omega⟩
theorem shW_0 {κ : Ko} {a j : Nat} (h : j ≠ 7) : shW κ a a j := Or.inl ⟨⟨by omega, by omega⟩, fun z => h z.2⟩
section ComeS
variable {S : Nat → Int32} {n : Nat} {x y w h : Int32}
theorem comeS_6 : comeS S n x y w h 6 = nI (n + 1) := by unfold comeS setS; rw [if_pos rfl]
theorem comeS_lo {k : Nat} (hk : k < 10) (h6 : k ≠ 6) : comeS S n x y w h k = S k := by
  unfold comeS setS
  rw [if_neg h6, if_neg (by omega), if_neg (by omega), if_neg (by omega), if_neg (by omega)]
theorem comeS_hi {k : Nat} (hn : n < 200) (hk : 810 ≤ k) : comeS S n x y w h k = S k := by
  unfold comeS setS
  rw [if_neg (by omega), if_neg (by omega), if_neg (by omega), if_neg (by omega), if_neg (by omega)]
theorem comeS_old {f p : Nat} (hf : f < n) (hp : p < 4) : comeS S n x y w h (10 + 4 * f + p) = S (10 + 4 * f + p) := by
  unfold comeS setS
  rw [if_neg (by omega), if_neg (by omega), if_neg (by omega), if_neg (by omega), if_neg (by omega)]
theorem comeS_new0 : comeS S n x y w h (10 + 4 * n + 0) = x := by
  unfold comeS setS
  rw [if_neg (by omega), if_neg (by omega), if_neg (by omega), if_neg (by omega), if_pos (by omega)]
theorem comeS_new1 : comeS S n x y w h (10 + 4 * n + 1) = y := by
  unfold comeS setS
  rw [if_neg (by omega), if_neg (by omega), if_neg (by omega), if_pos rfl]
theorem comeS_new2 : comeS S n x y w h (10 + 4 * n + 2) = w := by
  unfold comeS setS
  rw [if_neg (by omega), if_neg (by omega), if_pos rfl]
theorem comeS_new3 : comeS S n x y w h (10 + 4 * n + 3) = h := by
  unfold comeS setS
  rw [if_neg (by omega), if_pos rfl]
end ComeS
section DevMut
variable {κ : Ko} {dt : AS} {a : Nat} {S : Nat → Int32}
theorem d_putF (st : AS) {f p : Nat} {y v : Int32} (hy : y = nI p) (hf : f < 200) (hp : p < 4) : f_Sh_putFacet κ a (nI f) y v st = some (ui st (a + 1) (4 * f + p) v) := by
  rw [f_Sh_putFacet_eq, hy, ix4, gput_n rfl (by omega) (by decide)]
theorem d_putR (st : AS) {f p : Nat} {y v : Int32} (hy : y = nI p) (hf : f < 400) (hp : p < 7) : f_Sh_putRidge κ a (nI f) y v st = some (ui st (a + 2) (7 * f + p) v) := by
  rw [f_Sh_putRidge_eq, hy, ix7, gput_n rfl (by omega) (by decide)]
/-- the state after a facet has come -/
def comeD (st : AS) (a n : Nat) (x y w h : Int32) : AS := ui (ui (ui (ui (ui st (a + 1) (4 * n + 0) x) (a + 1) (4 * n + 1) y) (a + 1) (4 * n + 2) w) (a + 1) (4 * n + 3) h) a 11 (nI (n + 1))
theorem d_addFacet (st : AS) {n : Nat} (hn : gi st a 11 = nI n) (hn2 : n < 200) (x y w h : Int32) : f_Sh_addFacet κ a x y w h st = some (comeD st a n x y w h) := by
  unfold f_Sh_addFacet comeD
  have ne : ∀ (s : AS) (j : Nat) (v : Int32), gi (ui s (a + 1) j v) a 11 = gi s a 11 := fun s j v => by rw [gi_ui, if_neg (by omega)]
  simp only [hn, d_putF (κ := κ) (a := a) _ (y := 0) (p := 0) rfl hn2 (by decide), d_putF (κ := κ) (a := a) _ (y := 1) (p := 1) rfl hn2 (by decide), d_putF (κ := κ) (a := a) _ (y := 2) (p := 2) rfl hn2 (by decide), d_putF (κ := κ) (a := a) _ (y := 3) (p := 3) rfl hn2 (by decide), bnd_t, ne, nI_1]
theorem comeD_same (st : AS) (n : Nat) (x y w h : Int32) : Same (shW κ a) st (comeD st a n x y w h) :=
  (((((Same.rf (shW κ a) st).ui (shW_1 1 (by decide) (by decide))).ui (shW_1 1 (by decide) (by decide))).ui (shW_1 1 (by decide) (by decide))).ui (shW_1 1 (by decide) (by decide))).ui (shW_0 (by decide))
theorem nF_come {n : Nat} {x y w h : Int32} (hn : n < 2 ^ 31 - 1) : nF (comeS S n x y w h) = n + 1 := by unfold nF; rw [comeS_6, nI_clamp (by omega)]
theorem comeD_sh {n : Nat} (hS : ShD κ dt a S) (hn : S 6 = nI n) (hn2 : n < 200) (x y w h : Int32) : ShD κ (comeD dt a n x y w h) a (comeS S n x y w h) := by
  obtain ⟨h1, ⟨f0, f1, f2, f3, f4, f5, f6, f7, f8⟩, hl, hf, hr, hd⟩ := hS
  have hnF : nF S = n := by unfold nF; rw [hn, nI_clamp (by omega)]
  have hnR : nR (comeS S n x y w h) = nR S := by unfold nR; rw [comeS_lo (by decide) (by decide)]
  have hrD : rD (comeS S n x y w h) = rD S := by unfold rD; rw [comeS_lo (by decide) (by decide)]
  have ga : ∀ k, k ≠ 11 → gi (comeD dt a n x y w h) a k = gi dt a k := by
    intro k hk
    unfold comeD
    simp only [gi_ui]
    rw [if_neg (by omega), if_neg (by omega), if_neg (by omega), if_neg (by omega), if_neg (by omega)]
  refine ⟨h1, ⟨?_, ?_, ?_, ?_, ?_, ?_, ?_, ?_, ?_⟩, ?_, ?_, ?_, ?_⟩
  · rw [ga _ (by decide), comeS_lo (by decide) (by decide)]; exact f0
  · rw [ga _ (by decide), comeS_lo (by decide) (by decide)]; exact f1
  · trivial
  · rw [comeS_lo (by decide) (by decide)]; exact f3
  · rw [ga _ (by decide), comeS_lo (by decide) (by decide)]; exact f4
  · rw [comeS_6]; unfold comeD; rw [gi_ui, if_pos ⟨rfl, rfl⟩]
  · rw [ga _ (by decide), comeS_lo (by decide) (by decide)]; exact f6
  · rw [ga _ (by decide), comeS_lo (by decide) (by decide)]; exact f7
  · rw [ga _ (by decide), comeS_lo (by decide) (by decide)]; exact f8
  · rw [comeS_lo (by decide) (by decide)]; exact hl
  · intro f hf' p hp
    rw [nF_come (by omega)] at hf'
    unfold comeD
    simp only [gi_ui]
    rw [if_neg (by omega)]
    by_cases e : f = n
    · subst e
      match p, hp with
      | 0, _ => rw [if_neg (by omega), if_neg (by omega), if_neg (by omega), if_pos ⟨trivial, rfl⟩, comeS_new0]
      | 1, _ => rw [if_neg (by omega), if_neg (by omega), if_pos ⟨trivial, rfl⟩, comeS_new1]
      | 2, _ => rw [if_neg (by omega), if_pos ⟨trivial, rfl⟩, comeS_new2]
      | 3, _ => rw [if_pos ⟨trivial, rfl⟩, comeS_new3]
    · rw [if_neg (by omega), if_neg (by omega), if_neg (by omega), if_neg (by omega), comeS_old (by omega) hp]
      exact hf f (by omega) p hp
  · intro r hr' p hp
    rw [hnR] at hr'
    rw [comeS_hi hn2 (by omega)]
    unfold comeD
    simp only [gi_ui]
    rw [if_neg (by omega), if_neg (by omega), if_neg (by omega), if_neg (by omega), if_neg (by omega)]
    exact hr r hr' p hp
  · intro k hk hk0
    rw [hrD] at hk
    rw [comeS_hi hn2 (by omega)]
    unfold comeD
    simp only [gi_ui]
    rw [if_neg (by omega), if_neg (by omega), if_neg (by omega), if_neg (by omega), if_neg (by omega)]
    exact hd k hk hk0
/-- one number of a facet set -/
theorem setF_sh {f p : Nat} {v : Int32} (hS : ShD κ dt a S) (hf : f < 200) (hp : p < 4) : ShD κ (ui dt (a + 1) (4 * f + p) v) a (setS S (10 + 4 * f + p) v) := by
  obtain ⟨h1, ⟨f0, f1, f2, f3, f4, f5, f6, f7, f8⟩, hl, hfa, hr, hd⟩ := hS
  have lo : ∀ k, k < 10 → setS S (10 + 4 * f + p) v k = S k := fun k hk => if_neg (by omega)
  have ga : ∀ k, gi (ui dt (a + 1) (4 * f + p) v) a k = gi dt a k := fun k => by rw [gi_ui, if_neg (by omega)]
  have e6 : nF (setS S (10 + 4 * f + p) v) = nF S := by unfold nF; rw [lo 6 (by decide)]
  have e7 : nR (setS S (10 + 4 * f + p) v) = nR S := by unfold nR; rw [lo 7 (by decide)]
  have e5 : rD (setS S (10 + 4 * f + p) v) = rD S := by unfold rD; rw [lo 5 (by decide)]
  refine ⟨h1, ⟨?_, ?_, ?_, ?_, ?_, ?_, ?_, ?_, ?_⟩, ?_, ?_, ?_, ?_⟩
  · rw [ga, lo _ (by decide)]; exact f0
  · rw [ga, lo _ (by decide)]; exact f1
  · trivial
  · rw [lo _ (by decide)]; exact f3
  · rw [ga, lo _ (by decide)]; exact f4
  · rw [ga, lo _ (by decide)]; exact f5
  · rw [ga, lo _ (by decide)]; exact f6
  · rw [ga, lo _ (by decide)]; exact f7
  · rw [ga, lo _ (by decide)]; exact f8
  · rw [lo _ (by decide)]; exact hl
  · intro g hg u hu
    rw [e6] at hg
    rw [gi_ui]
    unfold setS
    by_cases e : 4 * g + u = 4 * f + p
    · rw [if_pos ⟨rfl, e⟩, if_pos (by omega)]
    · rw [if_neg (fun z => e z.2), if_neg (by omega)]
      exact hfa g hg u hu
  · intro r hr' u hu
    rw [e7] at hr'
    rw [gi_ui, if_neg (by omega), show setS S (10 + 4 * f + p) v (810 + 7 * r + u) = S (810 + 7 * r + u) from if_neg (by omega)]
    exact hr r hr' u hu
  · intro k hk hk0
    rw [e5] at hk
    rw [gi_ui, if_neg (by omega), show setS S (10 + 4 * f + p) v (3610 + k) = S (3610 + k) from if_neg (by omega)]
    exact hd k hk hk0
theorem setF_same {f p : Nat} {v : Int32} : Same (shW κ a) dt (ui dt (a + 1) (4 * f + p) v) := (Same.rf _ _).ui (shW_1 1 (by decide) (by decide))
theorem setF_at {S : Nat → Int32} {j k : Nat} {v : Int32} (h : k ≠ j) : setS S j v k = S k := if_neg h
/-- a facet cut -/
theorem d_cut (hS : ShD κ dt a S) {n f w : Nat} (hn : S 6 = nI n) (hn2 : n < 200) (hf : f < n) (hw : w < 2) (p : Int32) : ∃ dt', f_Sh_cutFacet κ a (nI f) (nI w) p dt = some dt' ∧ ShD κ dt' a (cutS S n f w p) ∧ Same (shW κ a) dt dt' := by
  have hnF : nF S = n := by unfold nF; rw [hn, nI_clamp (by omega)]
  have h11 : gi dt a 11 = nI n := by rw [hS.2.1.2.2.2.2.2.1]; exact hn
  have rd : ∀ u y, u < 4 → y = nI u → f_Sh_facetPart κ a (nI f) y dt = some (S (10 + 4 * f + u)) := by
    intro u y hu hy
    rw [f_Sh_facetPart_eq, hy, ix4, gat_n rfl (by omega) (by decide)]
    exact congrArg some (hS.2.2.2.1 f (by omega) u hu)
  have rdE : ∀ (st : AS) (g u : Nat) (y v : Int32), g < 200 → u < 4 → y = nI u → gi st (a + 1) (4 * g + u) = v → f_Sh_facetPart κ a (nI g) y st = some v := by
    intro st g u y v hg hu hy hv
    rw [f_Sh_facetPart_eq, hy, ix4, gat_n rfl (by omega) (by decide), hv]
  have hc : w = 0 ∨ w = 1 := by omega
  unfold f_Sh_cutFacet
  rw [rd 0 0 (by decide) rfl, bnd_t, rd 1 1 (by decide) rfl, bnd_t, rd 2 2 (by decide) rfl, bnd_t, rd 3 3 (by decide) rfl, bnd_t, d_addFacet dt h11 hn2, bnd_t, h11]
  rcases hc with rfl | rfl
  · rw [show (0 : Int32) + nI 0 = nI 0 from rfl, show (2 : Int32) + nI 0 = nI 2 from rfl]
    have g0 : gi (comeD dt a n (S (10 + 4 * f + 0)) (S (10 + 4 * f + 1)) (S (10 + 4 * f + 2)) (S (10 + 4 * f + 3))) (a + 1) (4 * f + 0) = S (10 + 4 * f + 0) := by
      unfold comeD
      simp only [gi_ui]
      rw [if_neg (by omega), if_neg (by omega), if_neg (by omega), if_neg (by omega), if_neg (by omega)]
      exact hS.2.2.2.1 f (by omega) 0 (by decide)
    have g2 : gi (comeD dt a n (S (10 + 4 * f + 0)) (S (10 + 4 * f + 1)) (S (10 + 4 * f + 2)) (S (10 + 4 * f + 3))) (a + 1) (4 * f + 2) = S (10 + 4 * f + 2) := by
      unfold comeD
      simp only [gi_ui]
      rw [if_neg (by omega), if_neg (by omega), if_neg (by omega), if_neg (by omega), if_neg (by omega)]
      exact hS.2.2.2.1 f (by omega) 2 (by decide)
    rw [rdE _ f 0 (nI 0) _ (by omega) (by decide) rfl g0, bnd_t, d_putF _ (p := 0) rfl hn2 (by decide), bnd_t]
    rw [rdE _ f 2 (nI 2) (S (10 + 4 * f + 2)) (by omega) (by decide) rfl (by rw [gi_ui, if_neg (by omega)]; exact g2), bnd_t, d_putF _ (p := 2) rfl hn2 (by decide), bnd_t, d_putF _ (p := 2) rfl (by omega) (by decide), bnd_t]
    refine ⟨_, rfl, ?_, ((((comeD_same dt n _ _ _ _)).tr setF_same).tr setF_same).tr setF_same⟩
    have e : cutS S n f 0 p = setS (setS (setS (comeS S n (S (10 + 4 * f + 0)) (S (10 + 4 * f + 1)) (S (10 + 4 * f + 2)) (S (10 + 4 * f + 3))) (10 + 4 * n + 0) (S (10 + 4 * f + 0) + p)) (10 + 4 * n + 2) (S (10 + 4 * f + 2) - p)) (10 + 4 * f + 2) p := by
      funext k
      unfold cutS comeS setS
      rw [if_pos rfl]
      repeat' split
      all_goals first | rfl | (exfalso; omega)
    rw [e]
    exact setF_sh (setF_sh (setF_sh (comeD_sh hS hn hn2 _ _ _ _) hn2 (by decide)) hn2 (by decide)) (by omega) (by decide)
  · rw [show (0 : Int32) + nI 1 = nI 1 from rfl, show (2 : Int32) + nI 1 = nI 3 from rfl]
    have g0 : gi (comeD dt a n (S (10 + 4 * f + 0)) (S (10 + 4 * f + 1)) (S (10 + 4 * f + 2)) (S (10 + 4 * f + 3))) (a + 1) (4 * f + 1) = S (10 + 4 * f + 1) := by
      unfold comeD
      simp only [gi_ui]
      rw [if_neg (by omega), if_neg (by omega), if_neg (by omega), if_neg (by omega), if_neg (by omega)]
      exact hS.2.2.2.1 f (by omega) 1 (by decide)
    have g2 : gi (comeD dt a n (S (10 + 4 * f + 0)) (S (10 + 4 * f + 1)) (S (10 + 4 * f + 2)) (S (10 + 4 * f + 3))) (a + 1) (4 * f + 3) = S (10 + 4 * f + 3) := by
      unfold comeD
      simp only [gi_ui]
      rw [if_neg (by omega), if_neg (by omega), if_neg (by omega), if_neg (by omega), if_neg (by omega)]
      exact hS.2.2.2.1 f (by omega) 3 (by decide)
    rw [rdE _ f 1 (nI 1) _ (by omega) (by decide) rfl g0, bnd_t, d_putF _ (p := 1) rfl hn2 (by decide), bnd_t]
    rw [rdE _ f 3 (nI 3) (S (10 + 4 * f + 3)) (by omega) (by decide) rfl (by rw [gi_ui, if_neg (by omega)]; exact g2), bnd_t, d_putF _ (p := 3) rfl hn2 (by decide), bnd_t, d_putF _ (p := 3) rfl (by omega) (by decide), bnd_t]
    refine ⟨_, rfl, ?_, ((((comeD_same dt n _ _ _ _)).tr setF_same).tr setF_same).tr setF_same⟩
    have e : cutS S n f 1 p = setS (setS (setS (comeS S n (S (10 + 4 * f + 0)) (S (10 + 4 * f + 1)) (S (10 + 4 * f + 2)) (S (10 + 4 * f + 3))) (10 + 4 * n + 1) (S (10 + 4 * f + 1) + p)) (10 + 4 * n + 3) (S (10 + 4 * f + 3) - p)) (10 + 4 * f + 3) p := by
      funext k
      unfold cutS comeS setS
      rw [if_neg (by decide)]
      repeat' split
      all_goals first | rfl | (exfalso; omega)
    rw [e]
    exact setF_sh (setF_sh (setF_sh (comeD_sh hS hn hn2 _ _ _ _) hn2 (by decide)) hn2 (by decide)) (by omega) (by decide)
end DevMut
