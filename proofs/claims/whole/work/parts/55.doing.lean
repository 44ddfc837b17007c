/-! a doing read, both readers -/
theorem DR.gen {κ : Ko} {ds ds' : AS} {a ta A iw n p : Nat} {T : Nat → Nat} {f m : Int32} {W : Nat → Nat → Prop} (h : DR κ ds a ta A iw n T p f m) (hw : Same W ds ds') (na : ∀ j, ¬ W a j) (nt : ∀ j, ¬ W ta j) : DR κ ds' a ta A iw n T p f m :=
  ⟨⟨⟨by rw [(hw a 0 (na _)).2.2]; exact h.1.1.1, h.1.1.2.1, h.1.1.2.2.1, by rw [(hw a 1 (na _)).1]; exact h.1.1.2.2.2.1, fun k hk => by rw [(hw ta k (nt _)).1]; exact h.1.1.2.2.2.2.1 k hk, h.1.1.2.2.2.2.2⟩, by rw [(hw a 2 (na _)).1]; exact h.1.2.1, h.1.2.2.1, by rw [(hw a 3 (na _)).1]; exact h.1.2.2.2.1, by rw [(hw a 4 (na _)).1]; exact h.1.2.2.2.2⟩, by rw [(hw a 5 (na _)).2.2]; exact h.2.1, by rw [(hw a 6 (na _)).2.2]; exact h.2.2⟩
theorem FS.gen {κ : Ko} {ds ds' : AS} {a ta A iw n F : Nat} {T : Nat → Nat} {W : Nat → Nat → Prop} (h : FS κ ds a ta A iw n T F) (hw : Same W ds ds') (na : ∀ j, ¬ W a j) (nt : ∀ j, ¬ W ta j) : FS κ ds' a ta A iw n T F := by
  obtain ⟨hF, p, m, hD⟩ := h
  exact ⟨hF, p, m, hD.gen hw na nt⟩
def num3 (c : c4) : Nat := if c.1 = 0 then c.2.1 else if c.1 = 1 then c.2.2.1 else 0
def tms3 (c : c4) : Nat := if c.1 = 0 then c.2.2.1 else 1
def way3 (c : c4) : Nat := if c.1 = 1 then c.2.1 else 0
def KDd (ds : AS) (a1 : Nat) (K : List c4) : Prop := gi ds a1 4 = nI K.length ∧ K.length ≤ 12 ∧ ∀ k, k < K.length →
  gi ds (a1 + 1) k = nI (kg K k).1 ∧ gi ds (a1 + 2) k = nI (num3 (kg K k)) ∧ gi ds (a1 + 3) k = nI (tms3 (kg K k)) ∧ gi ds (a1 + 4) k = nI (way3 (kg K k))
def KQd (rs : AS) (q t : Nat) (K : List c4) : Prop := gi rs (q + 6) t = nI K.length ∧ K.length ≤ 12 ∧ ∀ k, k < K.length →
  gi rs (q + 5) (60 * t + 5 * k) = nI (kg K k).1 ∧ gi rs (q + 5) (60 * t + 5 * k + 1) = nI (kg K k).2.1 ∧ gi rs (q + 5) (60 * t + 5 * k + 2) = nI (kg K k).2.2.1
def doC (c : c4) : Prop := c.1 = 0 ∧ (1 ≤ c.2.1 ∧ c.2.1 ≤ 99) ∧ (1 ≤ c.2.2.1 ∧ c.2.2.1 ≤ 60) ∨ c.1 = 1 ∧ c.2.1 < 2 ∧ (1 ≤ c.2.2.1 ∧ c.2.2.1 ≤ 199) ∨ c.1 = 2 ∧ c.2.1 = 0 ∧ c.2.2.1 = 1
theorem KQd.of {rs rs' : AS} {q t : Nat} {K : List c4} {W : Nat → Nat → Prop} (h : KQd rs q t K) (hw : Same W rs rs') (h6 : ¬ W (q + 6) t) (h5 : ∀ j, j < 60 * t + 5 * K.length → ¬ W (q + 5) j) : KQd rs' q t K :=
  ⟨by rw [(hw _ _ h6).1]; exact h.1, h.2.1, fun k hk => by
    have := h.2.2 k hk
    rw [(hw _ _ (h5 (60 * t + 5 * k) (by omega))).1, (hw _ _ (h5 (60 * t + 5 * k + 1) (by omega))).1, (hw _ _ (h5 (60 * t + 5 * k + 2) (by omega))).1]
    exact this⟩
theorem KQd.ph {rs rs' : AS} {q t : Nat} {K : List c4} (h : KQd rs q t K) (hw : Same (phW q t) rs rs') : KQd rs' q t K := h.of hw (fun z => by unfold phW pbW cqW at z; omega) (fun j _ z => by unfold phW pbW cqW at z; omega)
theorem KDd.of {ds ds' : AS} {a1 : Nat} {K : List c4} {W : Nat → Nat → Prop} (h : KDd ds a1 K) (hw : Same W ds ds') (h1 : ∀ j d, d < 5 → ¬ W (a1 + d) j) : KDd ds' a1 K :=
  ⟨by rw [(hw a1 4 (h1 4 0 (by decide))).1]; exact h.1, h.2.1, fun k hk => by
    have := h.2.2 k hk
    rw [(hw _ _ (h1 k 1 (by decide))).1, (hw _ _ (h1 k 2 (by decide))).1, (hw _ _ (h1 k 3 (by decide))).1, (hw _ _ (h1 k 4 (by decide))).1]
    exact this⟩
def dgW (a1 p j : Nat) : Prop := p = a1 ∧ j = 4 ∨ a1 + 1 ≤ p ∧ p ≤ a1 + 4
section DgAdd
variable {κ : Ko}
theorem d_dgAdd_same (ds : AS) (a1 : Nat) (x y z w : Int32) : Same (dgW a1) ds (f_Dg_add κ a1 x y z w ds) := by
  unfold f_Dg_add
  exact (((((Same.rf _ ds).gput (fun j => Or.inr ⟨by omega, by omega⟩)).gput (fun j => Or.inr ⟨by omega, by omega⟩)).gput (fun j => Or.inr ⟨by omega, by omega⟩)).gput (fun j => Or.inr ⟨by omega, by omega⟩)).ui (Or.inl ⟨rfl, rfl⟩)
theorem d_dgAdd {ds : AS} {a1 : Nat} {K : List c4} (h : KDd ds a1 K) (hl : K.length < 12) (c : c4) {x y z w : Int32} (hx : x = nI c.1) (hy : y = nI (num3 c)) (hz : z = nI (tms3 c)) (hw : w = nI (way3 c)) : KDd (f_Dg_add κ a1 x y z w ds) a1 (K ++ [c]) := by
  unfold f_Dg_add
  have ne : ∀ (s : AS) (d j : Nat) (v : Int32), 0 < d → gi (ui s (a1 + d) j v) a1 4 = gi s a1 4 := fun s d j v hd => by rw [gi_ui, if_neg (fun z => by omega)]
  rw [gput_n h.1 hl (by decide)]
  rw [gput_n ((ne _ 1 _ _ (by decide)).trans h.1) hl (by decide)]
  rw [gput_n ((ne _ 2 _ _ (by decide)).trans ((ne _ 1 _ _ (by decide)).trans h.1)) hl (by decide)]
  rw [gput_n ((ne _ 3 _ _ (by decide)).trans ((ne _ 2 _ _ (by decide)).trans ((ne _ 1 _ _ (by decide)).trans h.1))) hl (by decide)]
  rw [(ne _ 4 _ _ (by decide)).trans ((ne _ 3 _ _ (by decide)).trans ((ne _ 2 _ _ (by decide)).trans ((ne _ 1 _ _ (by decide)).trans h.1))), nI_1]
  refine ⟨by rw [gi_ui, if_pos ⟨rfl, rfl⟩, List.length_append]; rfl, by rw [List.length_append]; simp only [List.length_cons, List.length_nil]; omega, fun k hk => ?_⟩
  rw [List.length_append] at hk
  simp only [List.length_cons, List.length_nil] at hk
  have g : ∀ d, 1 ≤ d → d < 5 → gi (ui (ui (ui (ui (ui ds (a1 + 1) K.length x) (a1 + 2) K.length y) (a1 + 3) K.length z) (a1 + 4) K.length w) a1 4 (nI (K.length + 1))) (a1 + d) k = if k = K.length then (if d = 1 then x else if d = 2 then y else if d = 3 then z else w) else gi ds (a1 + d) k := by
    intro d h1 h2
    simp only [gi_ui]
    rw [if_neg (show ¬ (a1 + d = a1 ∧ k = 4) from fun z => by omega)]
    by_cases e : k = K.length
    · subst e
      rw [if_pos rfl]
      have hc : d = 1 ∨ d = 2 ∨ d = 3 ∨ d = 4 := by omega
      rcases hc with rfl | rfl | rfl | rfl
      · rw [if_neg (fun z => by omega), if_neg (fun z => by omega), if_neg (fun z => by omega), if_pos ⟨rfl, rfl⟩, if_pos rfl]
      · rw [if_neg (fun z => by omega), if_neg (fun z => by omega), if_pos ⟨rfl, rfl⟩, if_neg (by decide), if_pos rfl]
      · rw [if_neg (fun z => by omega), if_pos ⟨rfl, rfl⟩, if_neg (by decide), if_neg (by decide), if_pos rfl]
      · rw [if_pos ⟨rfl, rfl⟩, if_neg (by decide), if_neg (by decide), if_neg (by decide)]
    · rw [if_neg (show ¬ (a1 + d = a1 + 4 ∧ k = K.length) from fun z => e z.2), if_neg (show ¬ (a1 + d = a1 + 3 ∧ k = K.length) from fun z => e z.2), if_neg (show ¬ (a1 + d = a1 + 2 ∧ k = K.length) from fun z => e z.2), if_neg (show ¬ (a1 + d = a1 + 1 ∧ k = K.length) from fun z => e z.2), if_neg e]
  rw [g 1 (by decide) (by decide), g 2 (by decide) (by decide), g 3 (by decide) (by decide), g 4 (by decide) (by decide)]
  by_cases e : k = K.length
  · subst e
    simp only [if_true]
    rw [kg_e]
    exact ⟨hx, hy, hz, hw⟩
  · rw [if_neg e, if_neg e, if_neg e, if_neg e, kg_lt (by omega)]
    exact h.2.2 k (by omega)
end DgAdd
section Need
variable {κ : Ko} {st : AS} {a ta n p : Nat} {T : Nat → Nat} {m : Int32}
theorem d_need (h : RS κ st a ta n T p 0 m) {i : Nat} (hi : i < 11) : ∃ st', f_Rd_neededWord κ a i st = some (oI (wAm T (skp T n p) (wen T n (skp T n p)) (lw i) 0), st') ∧
    RS κ st' a ta n T (match wAm T (skp T n p) (wen T n (skp T n p)) (lw i) 0 with | some _ => wen T n (skp T n p) | none => skp T n p) (match wAm T (skp T n p) (wen T n (skp T n p)) (lw i) 0 with | some _ => 0 | none => nI (1 + 8 * skp T n p + 0)) m ∧ Same (rdW a) st st' := by
  have hp := h.2.2.1
  unfold f_Rd_neededWord
  obtain ⟨s2, e2, h2, w2⟩ := d_word h hi
  rw [show wRs T n p 0 i = wAm T (skp T n p) (wen T n (skp T n p)) (lw i) 0 by unfold wRs; rw [if_pos rfl]] at e2 h2
  rw [e2, bnd2_t]
  have hlt : ∀ j, wAm T (skp T n p) (wen T n (skp T n p)) (lw i) 0 = some j → j < 1000 := fun j hj => by
    have := wAm_e _ _ _ hj (lw_gd i hi).1
    have := (lw_gd i hi).2.2
    omega
  simp only [jn_e]
  generalize wAm T (skp T n p) (wen T n (skp T n p)) (lw i) 0 = o at *
  cases o with
  | none =>
    simp only [] at h2 ⊢
    rw [if_pos (show oI none = -1 from rfl), h2.2.1]
    obtain ⟨s3, e3, h3, w3⟩ := d_fail h2 (x := nI (skp T n p)) (y := 0) (b := skp T n p) (k := 0) rfl rfl
    rw [ffl_0] at h3
    rw [e3]
    exact ⟨s3, rfl, h3, w2.tr w3⟩
  | some j =>
    have hj := hlt j rfl
    simp only [] at h2 ⊢
    rw [if_neg (show ¬ oI (some j) = -1 from fun z => by have := (oI_n (o := some j) (fun x hx => by have := Option.some.inj hx; omega)).mp z; cases this)]
    exact ⟨s2, rfl, h2, w2⟩
theorem F_need {A iw F : Nat} {ds : AS} (h : FS κ ds a ta A iw n T F) {i : Nat} (hi : i < 11) : ∃ v ds', f_Rd_neededWord κ a i ds = some (v, ds') ∧ FS κ ds' a ta A iw n T F ∧ Same (rdW a) ds ds' := by
  obtain ⟨⟨F0, F1⟩, p, m, hD⟩ := h
  unfold f_Rd_neededWord
  obtain ⟨s2, e2, h2, w2⟩ := d_word hD.1 hi
  rw [wRs_F F0 F1] at e2 h2
  have D2 := hD.of h2 w2
  simp only [] at D2
  rw [e2, bnd2_t]
  simp only [jn_e]
  rw [if_pos (show oI none = -1 from rfl), D2.1.2.1]
  obtain ⟨s3, e3, h3, w3⟩ := d_fail D2.1 (x := nI (skp T n p)) (y := 0) (b := skp T n p) (k := 0) rfl rfl
  rw [ffl_n F0 F1] at h3
  rw [e3]
  exact ⟨_, s3, rfl, FS.mk F0 F1 (D2.of h3 w3), w2.tr w3⟩
end Need
def doW (a a1 p j : Nat) : Prop := rdW a p j ∨ dgW a1 p j
theorem rd_do {a a1 : Nat} {s1 s2 : AS} (h : Same (rdW a) s1 s2) : Same (doW a a1) s1 s2 := h.mono (fun _ _ z => Or.inl z)
theorem dg_do {a a1 : Nat} {s1 s2 : AS} (h : Same (dgW a1) s1 s2) : Same (doW a a1) s1 s2 := h.mono (fun _ _ z => Or.inr z)
/-- the reference's press, its fold, from the clause made on -/
noncomputable def act0 (κ : Ko) (q at_ : Nat) (S : AS) : Option (Int32 × AS) := bnd2 (f_R_numberHere κ q 1 99 S) (fun v22 s23 => if v22 = 0 then some ((0 : Int32), s23) else bnd2 (f_R_takesWord κ q 499984983411 (ui s23 (q + 5) (at_ + 1) (gi s23 q 13))) (fun v25 s26 => if v25 = 0 then some ((1 : Int32), s26) else bnd2 (f_R_numberHere κ q 1 60 s26) (fun v27 s28 => if v27 = 0 then some ((0 : Int32), s28) else some ((1 : Int32), ui s28 (q + 5) (at_ + 2) (gi s28 q 13)))))
noncomputable def act1b (κ : Ko) (q at_ : Nat) (s14 : AS) : Option (Int32 × AS) := bnd2 (f_R_isWord κ q 33056208972114036 s14) (fun v15 s16 => bnd (f_R_passWord κ q (ui s16 (q + 5) (at_ + 1) (if v15 = 0 then (1 : Int32) else 0))) (fun s18 => bnd2 (f_R_numberHere κ q 1 199 s18) (fun v19 s20 => if v19 = 0 then some ((0 : Int32), s20) else some ((1 : Int32), ui s20 (q + 5) (at_ + 2) (gi s20 q 13)))))
noncomputable def act1 (κ : Ko) (q at_ : Nat) (S : AS) : Option (Int32 × AS) := bnd2 (f_R_isWord κ q 33056208972114036 S) (fun v8 s9 => if v8 = 0 then bnd2 (f_R_isWord κ q 465558725996 s9) (fun v10 s11 => if v10 = 0 then grd (((f_R_fails κ q (0 : Int32) (gi s11 q 11) s11).1) = 0 ∨ ((f_R_fails κ q (0 : Int32) (gi s11 q 11) s11).1) = 1) (some (((f_R_fails κ q (0 : Int32) (gi s11 q 11) s11).1), ((f_R_fails κ q (0 : Int32) (gi s11 q 11) s11).2))) else act1b κ q at_ s11) else act1b κ q at_ s9)
section Act
variable {κ : Ko} {t n q p : Nat} {T : Nat → Nat} {rs : AS} {m : Int32} {K : List c4}
theorem r_act (ht : t < 18) (h14 : gi rs q 14 = nI t) (hK : KQd rs q t K) (hk : K.length < 12) (x1 : Int32) {rs0 : AS} (h0 : f_R_passWord κ q rs0 = some rs) :
    ∃ S, S = ui (ui (ui (ui rs (q + 5) (60 * t + 5 * K.length) x1) (q + 5) (60 * t + 5 * K.length + 1) 0) (q + 5) (60 * t + 5 * K.length + 2) 1) (q + 6) t (nI (K.length + 1)) ∧
    f_R_acted κ q x1 rs0 = (if x1 = 2 then some ((1 : Int32), S) else if x1 = 0 then act0 κ q (60 * t + 5 * K.length) S else act1 κ q (60 * t + 5 * K.length) S) ∧ Same (ckW q t) rs S := by
  refine ⟨_, rfl, ?_, ((((Same.rf _ rs).ui (Or.inl ⟨rfl, by omega, by omega⟩)).ui (Or.inl ⟨rfl, by omega, by omega⟩)).ui (Or.inl ⟨rfl, by omega, by omega⟩)).ui (Or.inr ⟨rfl, rfl⟩)⟩
  have e14 : gi (ui (ui (ui rs (q + 5) (60 * t + 5 * K.length) x1) (q + 5) (60 * t + 5 * K.length + 1) 0) (q + 5) (60 * t + 5 * K.length + 2) 1) q 14 = nI t := by rw [gi_ui, if_neg (fun z => by omega), gi_ui, if_neg (fun z => by omega), gi_ui, if_neg (fun z => by omega)]; exact h14
  have e6 : gi (ui (ui (ui rs (q + 5) (60 * t + 5 * K.length) x1) (q + 5) (60 * t + 5 * K.length + 1) 0) (q + 5) (60 * t + 5 * K.length + 2) 1) (q + 6) t = nI K.length := by rw [gi_ui, if_neg (fun z => by omega), gi_ui, if_neg (fun z => by omega), gi_ui, if_neg (fun z => by omega)]; exact hK.1
  unfold f_R_acted act0 act1 act1b
  rw [h0, bnd_t, h14, nI_clamp (show t < 2 ^ 31 by omega), hK.1, atN, nI_k _ 1 (y := 1) rfl, nI_k _ 2 (y := 2) rfl, nI_clamp (show 60 * t + 5 * K.length < 2 ^ 31 by omega), nI_clamp (show 60 * t + 5 * K.length + 1 < 2 ^ 31 by omega), nI_clamp (show 60 * t + 5 * K.length + 2 < 2 ^ 31 by omega), e14, nI_clamp (show t < 2 ^ 31 by omega), e6, nI_1]
  have g0 : vp_in (nI (60 * t + 5 * K.length)) 1080 := vp_in_nI (by omega) (by decide)
  have g1 : vp_in (nI (60 * t + 5 * K.length + 1)) 1080 := vp_in_nI (by omega) (by decide)
  have g2 : vp_in (nI (60 * t + 5 * K.length + 2)) 1080 := vp_in_nI (by omega) (by decide)
  have gt : vp_in (nI t) 18 := vp_in_nI ht (by decide)
  simp only [grd_t g0, grd_t g1, grd_t g2, grd_t gt, jn_e]
end Act
