/-! a sheet made like another, a sheet begun afresh: both classes -/
theorem gi_cpi (st : AS) (a b n p j : Nat) : gi (cpi st a b n) p j = if p = b ∧ j < n then gi st a j else gi st p j := rfl
theorem gl_cpi (st : AS) (a b n p j : Nat) : gl (cpi st a b n) p j = gl st p j := rfl
theorem gr_cpi (st : AS) (a b n p j : Nat) : gr (cpi st a b n) p j = gr st p j := rfl
def blC (a0 a1 : Nat) : List Nat → AS → AS
  | [], s => s
  | k :: l, s => ui (blC a0 a1 l s) a0 k (gi (blC a0 a1 l s) a1 k)
def bl1 (st : AS) (a0 a1 : Nat) : AS := cpi (cpi (cpi st (a1 + 1) (a0 + 1) (min 800 800)) (a1 + 2) (a0 + 2) (min 2800 2800)) (a1 + 3) (a0 + 3) (min 61 61)
def bl3 (st : AS) (a0 a1 c2 : Nat) : AS := blC a0 a1 [12, 11, 10, 9, 8, 7, 6, 5] (ur (bl1 st a0 a1) a0 4 (some c2))
def bl2 (st : AS) (a0 a1 c2 : Nat) : AS := ul (bl3 st a0 a1 c2) a0 13 (gl (bl3 st a0 a1 c2) a1 13)
theorem becomeLike_e (κ : Ko) (a0 a1 : Nat) (st : AS) : f_Sh_becomeLike κ a0 a1 st = bnd (gr (bl1 st a0 a1) a1 4) (fun c2 => grd (ly κ c2 = (3, 7)) (some (bl2 st a0 a1 c2))) := rfl
theorem blC_gi {a0 a1 : Nat} (h : a0 ≠ a1) : ∀ (l : List Nat) (s : AS) (p j : Nat), gi (blC a0 a1 l s) p j = if p = a0 ∧ j ∈ l then gi s a1 j else gi s p j
  | [], s, p, j => by
    rw [if_neg (fun z => by cases z.2)]
    rfl
  | k :: l, s, p, j => by
    have ih := blC_gi h l s
    rw [blC, gi_ui]
    by_cases e : p = a0 ∧ j = k
    · obtain ⟨rfl, rfl⟩ := e
      rw [if_pos ⟨rfl, rfl⟩, if_pos ⟨rfl, List.mem_cons_self⟩, ih, if_neg (fun z => h z.1.symm)]
    · rw [if_neg e, ih]
      by_cases e2 : p = a0 ∧ j ∈ l
      · rw [if_pos e2, if_pos ⟨e2.1, List.mem_cons_of_mem _ e2.2⟩]
      · rw [if_neg e2, if_neg (fun z => by
          rcases List.mem_cons.mp z.2 with y | y
          · exact e ⟨z.1, y⟩
          · exact e2 ⟨z.1, y⟩)]
theorem blC_gl {a0 a1 : Nat} : ∀ (l : List Nat) (s : AS) (p j : Nat), gl (blC a0 a1 l s) p j = gl s p j
  | [], _, _, _ => rfl
  | _ :: l, s, p, j => blC_gl l s p j
theorem blC_gr {a0 a1 : Nat} : ∀ (l : List Nat) (s : AS) (p j : Nat), gr (blC a0 a1 l s) p j = gr s p j
  | [], _, _, _ => rfl
  | _ :: l, s, p, j => blC_gr l s p j
theorem ShD.ext {κ : Ko} {dt : AS} {a : Nat} {S T : Nat → Int32} (h : ShD κ dt a S) (e : ∀ k, k < 3680 → T k = S k) (hF : nF S ≤ 200) (hR : nR S ≤ 400) (hr : rD S ≤ 60) : ShD κ dt a T := by
  obtain ⟨h1, ⟨f0, f1, f2, f3, f4, f5, f6, f7, f8⟩, hl, hfa, hri, hd⟩ := h
  have e6 : nF T = nF S := by unfold nF; rw [e 6 (by decide)]
  have e7 : nR T = nR S := by unfold nR; rw [e 7 (by decide)]
  have e5 : rD T = rD S := by unfold rD; rw [e 5 (by decide)]
  refine ⟨h1, ⟨?_, ?_, trivial, ?_, ?_, ?_, ?_, ?_, ?_⟩, ?_, ?_, ?_, ?_⟩
  · rw [e 0 (by decide)]; exact f0
  · rw [e 1 (by decide)]; exact f1
  · rw [e 4 (by decide)]; exact f3
  · rw [e 5 (by decide)]; exact f4
  · rw [e 6 (by decide)]; exact f5
  · rw [e 7 (by decide)]; exact f6
  · rw [e 8 (by decide)]; exact f7
  · rw [e 9 (by decide)]; exact f8
  · rw [e 2 (by decide)]; exact hl
  · intro u hu v hv
    rw [e6] at hu
    rw [e _ (by omega)]
    exact hfa u hu v hv
  · intro r hr' v hv
    rw [e7] at hr'
    rw [e _ (by omega)]
    exact hri r hr' v hv
  · intro k hk hk0
    rw [e5] at hk
    rw [e _ (by omega)]
    exact hd k hk hk0
theorem sok_ext {S T : Nat → Int32} (h : SOK S) (e : ∀ k, k < 3680 → T k = S k) : SOK T :=
  sok_like h (fun k h1 _ _ => e k (by omega)) (by rw [e 4 (by decide)]; exact h.1.2.2.2.2.1) (by rw [e 5 (by decide)]; exact h.1.2.2.2.2.2.1)
    (fun u v hu hv => e _ (by have := (sok_6 h).2.1; omega)) (fun r u hr hu => e _ (by have := (sok_7 h).2; omega)) (fun r hr => by
      rw [e _ (by have := (sok_7 h).2; omega)]
      exact (h.2.2.1 r hr).2.2.2.2.2.2.1)
theorem uok_ext {S T : Nat → Int32} (hk : SOK S) (h : UOK S) (e : ∀ k, k < 3680 → T k = S k) : UOK T := fun r hr => by
  have h7 := (sok_7 hk).2
  have e7 : nR T = nR S := by unfold nR; rw [e 7 (by decide)]
  have e5 : rD T = rD S := by unfold rD; rw [e 5 (by decide)]
  rw [e7] at hr
  have e6 : rN T r 6 = rN S r 6 := by unfold rN; rw [e _ (by omega)]
  rw [e5, e6]
  exact h r hr
section Like
variable {κ : Ko} {dt rt : AS} {a0 a1 q s s1 s2 : Nat} {S : Nat → Int32}
theorem bl2_gi (h : a0 + 4 < a1 ∨ a1 + 4 < a0) (c : Nat) (p j : Nat) : gi (bl2 dt a0 a1 c) p j = if p = a0 ∧ 5 ≤ j ∧ j ≤ 12 then gi dt a1 j else if p = a0 + 1 ∧ j < 800 then gi dt (a1 + 1) j else if p = a0 + 2 ∧ j < 2800 then gi dt (a1 + 2) j else if p = a0 + 3 ∧ j < 61 then gi dt (a1 + 3) j else gi dt p j := by
  have hb : ∀ p j, gi (bl1 dt a0 a1) p j = if p = a0 + 1 ∧ j < 800 then gi dt (a1 + 1) j else if p = a0 + 2 ∧ j < 2800 then gi dt (a1 + 2) j else if p = a0 + 3 ∧ j < 61 then gi dt (a1 + 3) j else gi dt p j := fun p j => by
    unfold bl1
    rw [Nat.min_self, Nat.min_self, Nat.min_self]
    repeat rw [gi_cpi]
    rw [if_neg (show ¬ (a1 + 3 = a0 + 2 ∧ j < 2800) by omega), if_neg (show ¬ (a1 + 3 = a0 + 1 ∧ j < 800) by omega), if_neg (show ¬ (a1 + 2 = a0 + 1 ∧ j < 800) by omega)]
    by_cases e1 : p = a0 + 1 ∧ j < 800
    · rw [if_neg (show ¬ (p = a0 + 3 ∧ j < 61) by omega), if_neg (show ¬ (p = a0 + 2 ∧ j < 2800) by omega), if_pos e1, if_pos e1]
    · rw [if_neg e1, if_neg e1]
      by_cases e2 : p = a0 + 2 ∧ j < 2800
      · rw [if_pos e2, if_neg (show ¬ (p = a0 + 3 ∧ j < 61) by omega), if_pos e2]
      · rw [if_neg e2, if_neg e2]
  show gi (bl3 dt a0 a1 c) p j = _
  unfold bl3
  rw [blC_gi (by omega)]
  show (if p = a0 ∧ j ∈ [12, 11, 10, 9, 8, 7, 6, 5] then gi (bl1 dt a0 a1) a1 j else gi (bl1 dt a0 a1) p j) = _
  rw [hb, hb, if_neg (show ¬ (a1 = a0 + 1 ∧ j < 800) by omega), if_neg (show ¬ (a1 = a0 + 2 ∧ j < 2800) by omega), if_neg (show ¬ (a1 = a0 + 3 ∧ j < 61) by omega)]
  have hm : j ∈ [12, 11, 10, 9, 8, 7, 6, 5] ↔ 5 ≤ j ∧ j ≤ 12 := by
    simp only [List.mem_cons, List.not_mem_nil, or_false]
    omega
  simp only [hm]
theorem d_like (h : ShD κ dt a1 S) (ha : ly κ a0 = (8, 14)) (hne : a0 + 4 < a1 ∨ a1 + 4 < a0) (hk : SOK S) : ∃ dt', f_Sh_becomeLike κ a0 a1 dt = some dt' ∧ ShD κ dt' a0 S ∧ gi dt' a0 7 = gi dt a1 7 ∧ Same (fun p _ => a0 ≤ p ∧ p < a0 + 5) dt dt' := by
  have h6 := (sok_6 hk).2.1
  have h7 := (sok_7 hk).2
  have h2 := (sok_2 hk).2
  have h5 := ((hk.1.2.2.2.2.2.1).cl (by decide)).2.2
  obtain ⟨h1, ⟨f0, f1, f2, f3, f4, f5, f6, f7, f8⟩, hl, hfa, hri, hd⟩ := h
  have g4 : gr (bl1 dt a0 a1) a1 4 = some (LA κ (S 2).toNatClampNeg) := hl
  rw [becomeLike_e, g4, bnd_t, grd_t (LA_ly (by omega))]
  generalize hc : LA κ (S 2).toNatClampNeg = c at *
  have gj : ∀ j, 5 ≤ j → j ≤ 12 → gi (bl2 dt a0 a1 c) a0 j = gi dt a1 j := fun j x y => by rw [bl2_gi hne, if_pos ⟨rfl, x, y⟩]
  have ggl : ∀ p j, gl (bl3 dt a0 a1 c) p j = gl dt p j := fun p j => by unfold bl3; rw [blC_gl]; rfl
  refine ⟨_, rfl, ⟨ha, ⟨?_, ?_, trivial, ?_, ?_, ?_, ?_, ?_, ?_⟩, ?_, ?_, ?_, ?_⟩, gj 7 (by decide) (by decide), fun p j hp => ⟨?_, ?_, ?_⟩⟩
  · rw [gj _ (by decide) (by decide)]; exact f0
  · rw [gj _ (by decide) (by decide)]; exact f1
  · unfold bl2
    rw [gl_ul, if_pos ⟨rfl, rfl⟩, ggl]; exact f3
  · rw [gj _ (by decide) (by decide)]; exact f4
  · rw [gj _ (by decide) (by decide)]; exact f5
  · rw [gj _ (by decide) (by decide)]; exact f6
  · rw [gj _ (by decide) (by decide)]; exact f7
  · rw [gj _ (by decide) (by decide)]; exact f8
  · show gr (bl3 dt a0 a1 c) a0 4 = _
    unfold bl3
    rw [blC_gr, gr_ur, if_pos ⟨rfl, rfl⟩, hc]
  · intro u hu v hv
    rw [bl2_gi hne, if_neg (by omega), if_pos ⟨rfl, by omega⟩]
    exact hfa u hu v hv
  · intro r hr' v hv
    rw [bl2_gi hne, if_neg (by omega), if_neg (by omega), if_pos ⟨rfl, by omega⟩]
    exact hri r hr' v hv
  · intro k hk' hk0
    have : k ≤ 60 := Nat.le_trans hk' h5
    rw [bl2_gi hne, if_neg (by omega), if_neg (by omega), if_neg (by omega), if_pos ⟨rfl, by omega⟩]
    exact hd k hk' hk0
  · rw [bl2_gi hne, if_neg (by omega), if_neg (by omega), if_neg (by omega), if_neg (by omega)]
  · unfold bl2
    rw [gl_ul, if_neg (by omega), ggl]
  · show gr (bl3 dt a0 a1 c) p j = _
    unfold bl3
    rw [blC_gr, gr_ur, if_neg (by omega)]
    rfl
theorem r_copy (h1 : s1 < 7) (h2 : s2 < 7) (hne : s1 ≠ s2) : ∃ rt', f_R_copySheet κ q (nI s1) (nI s2) rt = some rt' ∧ (∀ k, k < 3680 → rw_ rt' q s2 k = rw_ rt q s1 k) ∧ FrR0 q s2 rt rt' := by
  unfold f_R_copySheet
  refine lk1 (fun d t i => L_R_copySheet_2 κ d q (nI s1) (nI s2) i t) (fun z => ∃ rt', z = some rt' ∧ (∀ k, k < 3680 → rw_ rt' q s2 k = rw_ rt q s1 k) ∧ FrR0 q s2 rt rt') (fun i t => (∀ k, k < i → rw_ t q s2 k = rw_ rt q s1 k) ∧ FrR0 q s2 rt t) (n := 3680) ?_ ?_ 3680 0 FU rt (by omega) (FUn (by omega)) ⟨fun _ z => absurd z (Nat.not_lt_zero _), FrR0.rf _ _ _⟩
  · rintro d t ⟨g1, g2⟩
    rw [L_R_copySheet_2, if_pos (show (3680 : Int32) ≤ nI 3680 from nI_le (Nat.le_refl _) (by decide))]
    exact ⟨t, rfl, g1, g2⟩
  · rintro d t i hi ⟨g1, g2⟩ ih
    rw [L_R_copySheet_2, if_neg (show ¬ (3680 : Int32) ≤ nI i from nI_ge hi (by decide)), ixS, ixS, grd_t (vp_in_nI (by omega) (by decide)), grd_t (vp_in_nI (by omega) (by decide)), nI_clamp (by omega), nI_clamp (by omega), nI_1]
    have e : gi t (q + 14) (3680 * s1 + i) = rw_ rt q s1 i := g2.1 _ _ (fun _ => by omega)
    rw [e]
    refine ih _ ⟨fun k hk => ?_, g2.ui hi⟩
    rw [rw_ui]
    by_cases z : k = i
    · rw [z]; exact if_pos rfl
    · rw [st_at z]; exact g1 k (by omega)
theorem r_afresh (h : rw_ rt q s = S) (hs : s < 7) (x : Int32) : ∃ rt', f_R_afresh κ q (nI s) x rt = some rt' ∧ rw_ rt' q 6 = begS (rw_ rt q 6) (S 8) (S 9) (S 2) (S 3) x ∧ FrR0 q 6 rt rt' := by
  unfold f_R_afresh
  rw [rs_any (k := 8) (y := 8) h hs (by decide) rfl, bnd_t, rs_any (k := 9) (y := 9) h hs (by decide) rfl, bnd_t, rs_any (k := 2) (y := 2) h hs (by decide) rfl, bnd_t, rs_any (k := 3) (y := 3) h hs (by decide) rfl, bnd_t]
  obtain ⟨rt', e1, e2, e3⟩ := r_begin (κ := κ) (rt := rt) (q := q) (s := 6) (by decide) (S 8) (S 9) (S 2) (S 3) x
  rw [show (6 : Int32) = nI 6 from rfl, e1, bnd_t]
  exact ⟨rt', rfl, e2, e3⟩
theorem d_afresh (h : ShD κ dt a1 S) (hk : SOK S) (ha : ly κ a0 = (8, 14)) (T : Nat → Int32) (x : Int32) : ∃ dt', f_Sh_beginAfresh κ a0 a1 x dt = some dt' ∧ ShD κ dt' a0 (begS T (S 8) (S 9) (S 2) (S 3) x) ∧ Same (fun p _ => a0 ≤ p ∧ p < a0 + 5) dt dt' := by
  have h2 := (sok_2 hk).2
  obtain ⟨d2, e1, e2, e3, e4⟩ := d_begin dt ha T (S 8) (S 9) (S 2) x (S 3)
  unfold f_Sh_beginAfresh
  rw [h.2.2.1, bnd_t, grd_t (LA_ly (by omega)), h.2.1.2.2.2.2.2.2.2.1, h.2.1.2.2.2.2.2.2.2.2, e1, bnd_t]
  exact ⟨d2, rfl, e2, e4⟩
theorem uok_beg {T : Nat → Int32} {wide high law seed x : Int32} (hk : SOK (begS T wide high law seed x)) (h7 : begS T wide high law seed x 7 = 0) : UOK (begS T wide high law seed x) := fun r hr => by
  have : nR (begS T wide high law seed x) = 0 := by unfold nR; rw [h7]; rfl
  omega
end Like
