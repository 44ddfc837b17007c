/-! a law's clause with a sum, both readers -/
def lwW (a1 p j : Nat) : Prop := p = a1 ∧ j = 5 ∨ a1 + 5 ≤ p ∧ p ≤ a1 + 8
def lawW (a a1 p j : Nat) : Prop := pdW a (a1 + 1) p j ∨ lwW a1 p j
theorem pd_law {a a1 : Nat} {s1 s2 : AS} (h : Same (pdW a (a1 + 1)) s1 s2) : Same (lawW a a1) s1 s2 := h.mono (fun _ _ z => Or.inl z)
theorem lw_law {a a1 : Nat} {s1 s2 : AS} (h : Same (lwW a1) s1 s2) : Same (lawW a a1) s1 s2 := h.mono (fun _ _ z => Or.inr z)
def rtW (q t p j : Nat) : Prop := pbW q t p j ∨ ckW q t p j
theorem pb_rt {q t : Nat} {s1 s2 : AS} (h : Same (pbW q t) s1 s2) : Same (rtW q t) s1 s2 := h.mono (fun _ _ z => Or.inl z)
theorem ck_rt {q t : Nat} {s1 s2 : AS} (h : Same (ckW q t) s1 s2) : Same (rtW q t) s1 s2 := h.mono (fun _ _ z => Or.inr z)
section LwAdd
variable {κ : Ko}
theorem d_lwAdd_same (ds : AS) (a1 : Nat) (x y z w : Int32) : Same (lwW a1) ds (f_Lw_add κ a1 x y z w ds) := by
  unfold f_Lw_add
  exact (((((Same.rf _ ds).gput (fun j => Or.inr ⟨by omega, by omega⟩)).gput (fun j => Or.inr ⟨by omega, by omega⟩)).gput (fun j => Or.inr ⟨by omega, by omega⟩)).gput (fun j => Or.inr ⟨by omega, by omega⟩)).ui (Or.inl ⟨rfl, rfl⟩)
theorem d_lwAdd {ds : AS} {a1 : Nat} {K : List c4} (h : KD ds a1 K) (hl : K.length < 12) (c : c4) : KD (f_Lw_add κ a1 (nI c.1) (nI c.2.1) (nI c.2.2.1) (nI c.2.2.2) ds) a1 (K ++ [c]) := by
  unfold f_Lw_add
  have ne : ∀ (s : AS) (d j : Nat) (v : Int32), 0 < d → gi (ui s (a1 + d) j v) a1 5 = gi s a1 5 := fun s d j v hd => by rw [gi_ui, if_neg (fun z => by omega)]
  rw [gput_n h.1 hl (by decide)]
  rw [gput_n ((ne _ 5 _ _ (by decide)).trans h.1) hl (by decide)]
  rw [gput_n ((ne _ 6 _ _ (by decide)).trans ((ne _ 5 _ _ (by decide)).trans h.1)) hl (by decide)]
  rw [gput_n ((ne _ 7 _ _ (by decide)).trans ((ne _ 6 _ _ (by decide)).trans ((ne _ 5 _ _ (by decide)).trans h.1))) hl (by decide)]
  rw [(ne _ 8 _ _ (by decide)).trans ((ne _ 7 _ _ (by decide)).trans ((ne _ 6 _ _ (by decide)).trans ((ne _ 5 _ _ (by decide)).trans h.1))), nI_1]
  refine ⟨by rw [gi_ui, if_pos ⟨rfl, rfl⟩, List.length_append]; rfl, by rw [List.length_append]; simp only [List.length_cons, List.length_nil]; omega, fun k hk => ?_⟩
  rw [List.length_append] at hk
  simp only [List.length_cons, List.length_nil] at hk
  have g : ∀ d, 5 ≤ d → d < 9 → gi (ui (ui (ui (ui (ui ds (a1 + 5) K.length (nI c.1)) (a1 + 6) K.length (nI c.2.1)) (a1 + 7) K.length (nI c.2.2.1)) (a1 + 8) K.length (nI c.2.2.2)) a1 5 (nI (K.length + 1))) (a1 + d) k = if k = K.length then (if d = 5 then nI c.1 else if d = 6 then nI c.2.1 else if d = 7 then nI c.2.2.1 else nI c.2.2.2) else gi ds (a1 + d) k := by
    intro d h1 h2
    simp only [gi_ui]
    rw [if_neg (show ¬ (a1 + d = a1 ∧ k = 5) from fun z => by omega)]
    by_cases e : k = K.length
    · subst e
      rw [if_pos rfl]
      have hc : d = 5 ∨ d = 6 ∨ d = 7 ∨ d = 8 := by omega
      rcases hc with rfl | rfl | rfl | rfl
      · rw [if_neg (fun z => by omega), if_neg (fun z => by omega), if_neg (fun z => by omega), if_pos ⟨rfl, rfl⟩, if_pos rfl]
      · rw [if_neg (fun z => by omega), if_neg (fun z => by omega), if_pos ⟨rfl, rfl⟩, if_neg (by decide), if_pos rfl]
      · rw [if_neg (fun z => by omega), if_pos ⟨rfl, rfl⟩, if_neg (by decide), if_neg (by decide), if_pos rfl]
      · rw [if_pos ⟨rfl, rfl⟩, if_neg (by decide), if_neg (by decide), if_neg (by decide)]
    · rw [if_neg (show ¬ (a1 + d = a1 + 8 ∧ k = K.length) from fun z => e z.2), if_neg (show ¬ (a1 + d = a1 + 7 ∧ k = K.length) from fun z => e z.2), if_neg (show ¬ (a1 + d = a1 + 6 ∧ k = K.length) from fun z => e z.2), if_neg (show ¬ (a1 + d = a1 + 5 ∧ k = K.length) from fun z => e z.2), if_neg e]
  rw [g 5 (by decide) (by decide), g 6 (by decide) (by decide), g 7 (by decide) (by decide), g 8 (by decide) (by decide)]
  by_cases e : k = K.length
  · subst e
    simp only [if_true]
    rw [kg_e]
    exact ⟨rfl, rfl, rfl, rfl⟩
  · rw [if_neg e, if_neg e, if_neg e, if_neg e, kg_lt (by omega)]
    exact h.2.2 k (by omega)
end LwAdd
theorem DR.lw {κ : Ko} {ds ds' : AS} {a ta a1 t iw n p : Nat} {T : Nat → Nat} {f m : Int32} (hc : PC κ a ta (a1 + 1) t iw) (h : DR κ ds a ta (a1 + 1) iw n T p f m) (hw : Same (lwW a1) ds ds') : DR κ ds' a ta (a1 + 1) iw n T p f m := by
  have h0 := hc.1
  have h1 := hc.2.1
  have na : ∀ j, ¬ lwW a1 a j := fun j z => by unfold lwW at z; omega
  have nt : ∀ j, ¬ lwW a1 ta j := fun j z => by unfold lwW at z; omega
  refine ⟨⟨⟨by rw [(hw a 0 (na _)).2.2]; exact h.1.1.1, h.1.1.2.1, h.1.1.2.2.1, by rw [(hw a 1 (na _)).1]; exact h.1.1.2.2.2.1, fun k hk => by rw [(hw ta k (nt _)).1]; exact h.1.1.2.2.2.2.1 k hk, h.1.1.2.2.2.2.2⟩, by rw [(hw a 2 (na _)).1]; exact h.1.2.1, h.1.2.2.1, by rw [(hw a 3 (na _)).1]; exact h.1.2.2.2.1, by rw [(hw a 4 (na _)).1]; exact h.1.2.2.2.2⟩, by rw [(hw a 5 (na _)).2.2]; exact h.2.1, by rw [(hw a 6 (na _)).2.2]; exact h.2.2⟩
theorem CDL.lw {ds ds' : AS} {a1 : Nat} {L : List (Nat × Nat)} (h : CDL ds (a1 + 1) L) (hw : Same (lwW a1) ds ds') : CDL ds' (a1 + 1) L := h.of hw (fun z => by unfold lwW at z; omega) (fun j z => by unfold lwW at z; omega) (fun j z => by unfold lwW at z; omega)
/-- the class's clause with a sum -/
noncomputable def lwE (κ : Ko) (a a1 : Nat) (v4 c1 c2 : Int32) (J : AS → Option (Int32 × AS)) (s17 : AS) : Option (Int32 × AS) := bnd (gr s17 a 5) (fun c19 => grd (ly κ c19 = (0, 4)) (J (f_Lw_add κ a1 v4 c1 c2 (f_Cd_stepCount κ c19 s17) s17)))
noncomputable def lwS (κ : Ko) (a a1 : Nat) (v4 : Int32) (J : AS → Option (Int32 × AS)) (s5 : AS) : Option (Int32 × AS) := bnd (gr s5 a 5) (fun c7 => grd (ly κ c7 = (0, 4)) (bnd (f_Rd_sum κ 0 a s5) (fun s9 => bnd (gr s9 a 5) (fun c11 => grd (ly κ c11 = (0, 4)) (bnd2 (f_Rd_takesWord κ a 2 s9) (fun v13 s14 => if v13 = 0 then lwE κ a a1 v4 (f_Cd_stepCount κ c7 s5) (f_Cd_stepCount κ c11 s9) J s14 else bnd (g_Rd_test κ 0 (f_Rd_fact κ 0 10) a (0 : Int32) s14) (fun s15 => lwE κ a a1 v4 (f_Cd_stepCount κ c7 s5) (f_Cd_stepCount κ c11 s9) J s15)))))))
noncomputable def lwJ (κ : Ko) (k : Nat → AS → Option (Int32 × AS)) (d a a1 : Nat) (v26 x5 : Int32) (s27 : AS) : Option (Int32 × AS) := bnd2 (f_Rd_takesByte κ a (59 : Int32) s27) (fun v28 s29 => L_Rd_readLaw_31 κ k d a a1 v26 v28 (x5 + 1) s29)
noncomputable def lwF (κ : Ko) (a a1 : Nat) (J : AS → Option (Int32 × AS)) (s22 : AS) : Option (Int32 × AS) := bnd2 (f_Rd_number κ a (1 : Int32) (99 : Int32) s22) (fun v23 s24 => J (f_Lw_softFrom κ a1 v23 s24))
theorem readLaw_e (κ : Ko) (k : Nat → AS → Option (Int32 × AS)) (d a a1 : Nat) (x3 x4 x5 : Int32) (st : AS) : L_Rd_readLaw_31 κ k (d + 1) a a1 x3 x4 x5 st = if 12 < x5 then k a st else if x4 = 0 then k a st else bnd2 (f_Rd_nextPlace κ a st) (fun v2 s3 => bnd2 (f_Rd_clauseWord κ a 1 x5 s3) (fun v4 s5 => if v4 = 2 then (if x3 = 0 then lwF κ a a1 (lwJ κ k d a a1 1 x5) s5 else lwF κ a a1 (lwJ κ k d a a1 1 x5) (f_Rd_fail κ a v2 (4 : Int32) s5)) else lwS κ a a1 v4 (lwJ κ k d a a1 x3 x5) s5)) := rfl
section LawSum
variable {κ : Ko} {a ta a1 t n q : Nat} {T : Nat → Nat}
theorem FS.lw {κ : Ko} {ds ds' : AS} {a ta a1 t iw n F : Nat} {T : Nat → Nat} (hc : PC κ a ta (a1 + 1) t iw) (h : FS κ ds a ta (a1 + 1) iw n T F) (hw : Same (lwW a1) ds ds') : FS κ ds' a ta (a1 + 1) iw n T F := by
  obtain ⟨hF, p, m, hD⟩ := h
  exact ⟨hF, p, m, hD.lw hc hw⟩
theorem F_lwE (hc : PC κ a ta (a1 + 1) t 0) {F : Nat} {ds : AS} (h : FS κ ds a ta (a1 + 1) 0 n T F) (v4 c1 c2 : Int32) : ∃ ds', (∀ J, lwE κ a a1 v4 c1 c2 J ds = J ds') ∧ FS κ ds' a ta (a1 + 1) 0 n T F ∧ Same (lawW a a1) ds ds' := by
  have h' := h
  obtain ⟨-, p, m, hD⟩ := h'
  have w := d_lwAdd_same (κ := κ) ds a1 v4 c1 c2 (f_Cd_stepCount κ (a1 + 1) ds)
  refine ⟨_, fun J => ?_, h.lw hc w, lw_law w⟩
  unfold lwE
  rw [hD.2.1, bnd_t, grd_t hc.2.2.1]
theorem F_test {A iw : Nat} (hc : PC κ a ta A t iw) {F : Nat} {ds : AS} (h : FS κ ds a ta A iw n T F) (dk : Nat) (x1 : Int32) : ∃ ds', g_Rd_test κ iw (f_Rd_fact κ iw dk) a x1 ds = some ds' ∧ FS κ ds' a ta A iw n T F ∧ Same (pdW a A) ds ds' := by
  unfold g_Rd_test
  obtain ⟨s1, e1, h1, w1⟩ := F_fact hc h dk x1
  rw [e1, bnd_t]
  obtain ⟨s2, e2, h2, w2⟩ := F_testL hc (Ff := f_Rd_fact κ iw dk) h1 x1 0 (x4 := 0) (by omega) (FU - 2)
  exact ⟨s2, e2, h2, w1.tr w2⟩
theorem F_takesW {A iw : Nat} {F : Nat} {ds : AS} (h : FS κ ds a ta A iw n T F) {i : Nat} (hi : i < 11) : ∃ ds', f_Rd_takesWord κ a i ds = some (0, ds') ∧ FS κ ds' a ta A iw n T F ∧ Same (pdW a A) ds ds' := by
  obtain ⟨⟨F0, F1⟩, p, m, hD⟩ := h
  obtain ⟨s3, e3, h3, w3⟩ := d_takesW hD.1 hi
  rw [wRs_F F0 F1] at e3 h3
  exact ⟨s3, e3, FS.mk F0 F1 (hD.of h3 w3), rd_pd w3⟩
theorem F_takes {A iw : Nat} {F : Nat} {ds : AS} (h : FS κ ds a ta A iw n T F) {x : Int32} {b : Nat} (hx : x = nI b) (hb : b < 256) : ∃ ds', f_Rd_takesByte κ a x ds = some (0, ds') ∧ FS κ ds' a ta A iw n T F ∧ Same (pdW a A) ds ds' := by
  obtain ⟨⟨F0, F1⟩, p, m, hD⟩ := h
  obtain ⟨p2, s2, e2, h2, -, -, w2⟩ := d_takes0 hD.1 hx hb (tks_F F0 F1)
  exact ⟨s2, e2, FS.mk F0 F1 (hD.of h2 w2), rd_pd w2⟩
theorem F_fail {A iw : Nat} {F : Nat} {ds : AS} (h : FS κ ds a ta A iw n T F) {x y : Int32} {b k : Nat} (hx : x = nI b) (hy : y = nI k) : ∃ ds', f_Rd_fail κ a x y ds = ds' ∧ FS κ ds' a ta A iw n T F ∧ Same (pdW a A) ds ds' := by
  obtain ⟨⟨F0, F1⟩, p, m, hD⟩ := h
  obtain ⟨s2, e2, h2, w2⟩ := d_fail hD.1 hx hy
  rw [ffl_n F0 F1] at h2
  exact ⟨s2, e2, FS.mk F0 F1 (hD.of h2 w2), rd_pd w2⟩
theorem F_number {A iw : Nat} {F : Nat} {ds : AS} (h : FS κ ds a ta A iw n T F) {x y : Int32} {lo hi : Nat} (hx : x = nI lo) (hy : y = nI hi) (hlo : lo < 2 ^ 31) (hhi : hi < 2 ^ 31) : ∃ v ds', f_Rd_number κ a x y ds = some (v, ds') ∧ FS κ ds' a ta A iw n T F ∧ Same (pdW a A) ds ds' := by
  obtain ⟨⟨F0, F1⟩, p, m, hD⟩ := h
  obtain ⟨s3, e3, h3, w3⟩ := d_number hD.1 hx hy hlo hhi
  rw [if_neg (nI_ne0 F0 (by omega))] at h3
  exact ⟨_, s3, e3, FS.mk F0 F1 (hD.of h3 w3), rd_pd w3⟩
theorem F_lwS (hc : PC κ a ta (a1 + 1) t 0) {F : Nat} {ds : AS} (h : FS κ ds a ta (a1 + 1) 0 n T F) (v4 : Int32) : ∃ ds', (∀ J, lwS κ a a1 v4 J ds = J ds') ∧ FS κ ds' a ta (a1 + 1) 0 n T F ∧ Same (lawW a a1) ds ds' := by
  have h' := h
  obtain ⟨-, p, m, hD⟩ := h'
  obtain ⟨s1, e1, h1, w1⟩ := F_sum hc h
  have h1' := h1
  obtain ⟨-, p1, m1, hD1⟩ := h1'
  obtain ⟨s2, e2, h2, w2⟩ := F_takesW h1 (i := 2) (by decide)
  obtain ⟨s3, e3, h3, w3⟩ := F_lwE hc h2 v4 (f_Cd_stepCount κ (a1 + 1) ds) (f_Cd_stepCount κ (a1 + 1) s1)
  refine ⟨s3, fun J => ?_, h3, ((pd_law w1).tr (pd_law w2)).tr w3⟩
  unfold lwS
  rw [hD.2.1, bnd_t, grd_t hc.2.2.1, e1, bnd_t, hD1.2.1, bnd_t, grd_t hc.2.2.1, e2, bnd2_t, if_pos (show (0 : Int32) = 0 from rfl), e3]
theorem E_lawSum (hc : PC κ a ta (a1 + 1) t 0) {pd pr m so : Nat} {L : List (Nat × Nat)} {K : List c4} {ds rs rs0 : AS} (h : PS κ ds rs a ta (a1 + 1) 0 q t n T pd pr L L m) (h0 : f_R_passWord κ q rs0 = some rs) (hKD : KD ds a1 K) (hKQ : KQ rs q t K) (hK12 : K.length < 12) (hl : L.length ≤ pd) (hso : so < 2) (hca : a + 4 < a1) :
    (∃ ds' rs' L' c pd' pr' m', (∀ J, lwS κ a a1 (nI so) J ds = J ds') ∧ f_R_clauseOf κ q (nI so) 1 rs0 = some (1, rs') ∧ PS κ ds' rs' a ta (a1 + 1) 0 q t n T pd' pr' L' L' m' ∧ KD ds' a1 (K ++ [c]) ∧ KQ rs' q t (K ++ [c]) ∧ lawC L' c ∧ (∃ Z, L' = L ++ Z) ∧ pd < pd' ∧ L'.length ≤ pd' ∧ Same (lawW a a1) ds ds' ∧ Same (rtW q t) rs rs') ∨
    (∃ ds' rs' F, (∀ J, lwS κ a a1 (nI so) J ds = J ds') ∧ FS κ ds' a ta (a1 + 1) 0 n T F ∧ f_R_clauseOf κ q (nI so) 1 rs0 = some (0, rs') ∧ gi rs' q 12 = nI F ∧ Same (lawW a a1) ds ds' ∧ Same (rtW q t) rs rs') := by
  have ht : t < 18 := by have := hc.2.2.2; omega
  obtain ⟨⟨hD, hC⟩, hR, hsk, hm, hv, hvc⟩ := h
  obtain ⟨q1, v1⟩ := r_cl1 (κ := κ) ht hR hKQ hK12 (nI so) 1 h0
  rw [if_neg (show ¬ (1 : Int32) = 0 by decide)] at q1
  rw [q1]
  generalize hS1 : ui (ui rs (q + 5) (60 * t + 5 * K.length) (nI so)) (q + 5) (60 * t + 5 * K.length + 1) (nI L.length) = r1 at *
  have R1 := hR.ck v1
  have f0 : gi r1 (q + 5) (60 * t + 5 * K.length) = nI so := by rw [← hS1, gi_ui, if_neg (fun z => by omega), gi_ui, if_pos ⟨rfl, rfl⟩]
  have f1 : gi r1 (q + 5) (60 * t + 5 * K.length + 1) = nI L.length := by rw [← hS1, gi_ui, if_pos ⟨rfl, rfl⟩]
  have KQ1 : KQ r1 q t K := by
    rw [← hS1]
    exact (hKQ.of (W := fun p j => p = q + 5 ∧ 60 * t + 5 * K.length ≤ j) (((Same.rf _ rs).ui ⟨rfl, Nat.le_refl _⟩).ui ⟨rfl, by omega⟩) (fun z => by omega) (fun j hj z => by omega))
  have hP1 : PS κ ds r1 a ta (a1 + 1) 0 q t n T pd pr L L m := ⟨⟨hD, hC⟩, R1, hsk, hm, hv, hvc⟩
  -- the sort and the sum's beginning stay
  have keep : ∀ (r r' : AS), Same (pbW q t) r r' → ∀ j, gi r' (q + 5) j = gi r (q + 5) j := fun r r' hw j => (hw _ _ (fun z => by unfold pbW cqW at z; omega)).1
  rcases E_sum (κ := κ) (q := q) (T := T) hc hP1 hl hl with ⟨ds2, rs2, R, pd2, pr2, m2, b1, b2, b3, b4, b5, b6, b8, b9⟩ | ⟨ds2, rs2, F, b1, b2, b3, b4, b5, b6⟩
  · obtain ⟨⟨D2, C2⟩, Q2, sk2, mm2, v2, vc2⟩ := b3
    obtain ⟨hpn2, hn⟩ := D2.m
    have hlo2 := skp_lo (T := T) hpn2
    have hss2 := skp_skp (T := T) hpn2
    have hsr2 := skp_skp (T := T) Q2.1.2.2.1
    have ll2 : (L ++ R).length = L.length + R.length := List.length_append
    rw [b2, bnd2_t, if_neg (show ¬ (1 : Int32) = 0 by decide)]
    obtain ⟨q3, v3⟩ := r_cl2 (κ := κ) ht Q2 hK12 1
    rw [if_neg (show ¬ (1 : Int32) = 0 by decide)] at q3
    rw [q3]
    generalize hS3 : ui (ui rs2 (q + 5) (60 * t + 5 * K.length + 2) (nI (L ++ R).length)) (q + 5) (60 * t + 5 * K.length + 3) (-1) = r3 at *
    have R3 := Q2.ck v3
    have g0 : gi r3 (q + 5) (60 * t + 5 * K.length) = nI so := by rw [← hS3, gi_ui, if_neg (fun z => by omega), gi_ui, if_neg (fun z => by omega), keep _ _ (pq_pb b9)]; exact f0
    have g1 : gi r3 (q + 5) (60 * t + 5 * K.length + 1) = nI L.length := by rw [← hS3, gi_ui, if_neg (fun z => by omega), gi_ui, if_neg (fun z => by omega), keep _ _ (pq_pb b9)]; exact f1
    have g2 : gi r3 (q + 5) (60 * t + 5 * K.length + 2) = nI (L ++ R).length := by rw [← hS3, gi_ui, if_neg (fun z => by omega), gi_ui, if_pos ⟨rfl, rfl⟩]
    have g3 : gi r3 (q + 5) (60 * t + 5 * K.length + 3) = -1 := by rw [← hS3, gi_ui, if_pos ⟨rfl, rfl⟩]
    have KQ3 : KQ r3 q t K := by
      rw [← hS3]
      exact (KQ1.pb (pq_pb b9)).of (W := fun p j => p = q + 5 ∧ 60 * t + 5 * K.length ≤ j) (((Same.rf _ rs2).ui ⟨rfl, by omega⟩).ui ⟨rfl, by omega⟩) (fun z => by omega) (fun j hj z => by omega)
    have KD2 := hKD.pd (a := a) hca b8
    obtain ⟨s4, e4, h4, w4⟩ := d_takesW D2.1 (i := 2) (by decide)
    rw [wRs_1 (cs := [105, 102]) rfl] at e4 h4
    unfold f_R_takesWord
    obtain ⟨r4, g4, k4, v4⟩ := r_isWord (κ := κ) R3.1 (cs := [105, 102]) (y := 26982) rfl rfl
    have R4 := R3.of k4 v4
    have hwq : wqB T (skp T n pr2) (wen T n (skp T n pr2)) [105, 102] = wnx T n pd2 [105, 102] := by unfold wnx; rw [sk2]
    rw [hwq] at g4
    rw [g4, bnd2_t]
    have C4 := C2.rd hc w4
    have KD4 := KD2.pd (a := a) hca (rd_pd (A := a1 + 1) w4)
    have KQ4 := KQ3.pb (rq_pb (t := t) v4)
    have keep4 : ∀ j, gi r4 (q + 5) j = gi r3 (q + 5) j := keep _ _ (rq_pb v4)
    -- the whole of the class's clause, from the test's end
    have dev : ∀ (s5 s6 : AS), (if wnx T n pd2 [105, 102] = true then bnd (g_Rd_test κ 0 (f_Rd_fact κ 0 10) a (0 : Int32) s4) (fun s15 => some s15) = some s5 else s5 = s4) → (∀ J, lwE κ a a1 (nI so) (nI L.length) (nI (L ++ R).length) J s5 = J s6) → ∀ J, lwS κ a a1 (nI so) J ds = J s6 := by
      intro s5 s6 z1 z2 J
      unfold lwS
      rw [hD.2.1, bnd_t, grd_t hc.2.2.1, b1, bnd_t, D2.2.1, bnd_t, grd_t hc.2.2.1, e4, bnd2_t]
      unfold f_Cd_stepCount
      rw [hC.1, C2.1]
      by_cases zz : wnx T n pd2 [105, 102] = true
      · rw [if_pos zz] at z1 ⊢
        simp only []
        rw [if_neg (show ¬ (1 : Int32) = 0 by decide)]
        obtain ⟨s7, y1, y2⟩ := bnd_some z1
        rw [y1, bnd_t]
        have y3 := Option.some.inj y2
        rw [y3, z2]
      · rw [if_neg zz] at z1 ⊢
        simp only [if_true]
        rw [← z1, z2]
    have lwE_e : ∀ (s5 : AS) (L5 : List (Nat × Nat)) (p5 : Nat) (f5 m5 : Int32), DR κ s5 a ta (a1 + 1) 0 n T p5 f5 m5 → CDL s5 (a1 + 1) L5 → ∀ J, lwE κ a a1 (nI so) (nI L.length) (nI (L ++ R).length) J s5 = J (f_Lw_add κ a1 (nI so) (nI L.length) (nI (L ++ R).length) (nI L5.length) s5) := by
      intro s5 L5 p5 f5 m5 z1 z2 J
      unfold lwE f_Cd_stepCount
      rw [z1.2.1, bnd_t, grd_t hc.2.2.1, z2.1]
    by_cases kI : wnx T n pd2 [105, 102] = true
    · -- with a test
      have hw2 := wnx_lt kI
      simp only [List.length_cons, List.length_nil] at hw2
      have hwl := wen_lo (T := T) hlo2.2
      simp only [if_pos kI] at dev
      rw [if_pos kI] at h4 ⊢
      simp only [] at h4
      have D4 := D2.of h4 w4
      rw [if_neg (show ¬ (1 : Int32) = 0 by decide)]
      obtain ⟨r5, g5, k5, v5⟩ := r_pass (κ := κ) R4.1
      have R5 := R4.of k5 v5
      rw [← sk2] at R5
      rw [g5, bnd_t, bnd2_t, if_neg (show ¬ (1 : Int32) = 0 by decide)]
      obtain ⟨q6, v6⟩ := r_cl3 (κ := κ) ht R5 hK12
      rw [q6]
      generalize hS6 : ui r5 (q + 5) (60 * t + 5 * K.length + 3) (nI (L ++ R).length) = r6 at *
      have R6 := R5.ck v6
      have keep5 : ∀ j, gi r5 (q + 5) j = gi r3 (q + 5) j := fun j => (keep _ _ (rq_pb (t := t) v5) j).trans (keep4 j)
      have KQ6 : KQ r6 q t K := by
        rw [← hS6]
        exact (KQ4.pb (rq_pb v5)).of (W := fun p j => p = q + 5 ∧ 60 * t + 5 * K.length ≤ j) ((Same.rf _ r5).ui ⟨rfl, by omega⟩) (fun z => by omega) (fun j hj z => by omega)
      have h6 : ∀ j, j ≠ 60 * t + 5 * K.length + 3 → gi r6 (q + 5) j = gi r3 (q + 5) j := fun j hj => by rw [← hS6, gi_ui, if_neg (fun z => hj z.2), keep5]
      have h63 : gi r6 (q + 5) (60 * t + 5 * K.length + 3) = nI (L ++ R).length := by rw [← hS6, gi_ui, if_pos ⟨rfl, rfl⟩]
      have hP6 : PS κ s4 r6 a ta (a1 + 1) 0 q t n T (wen T n (skp T n pd2)) (wen T n (skp T n pd2)) (L ++ R) (L ++ R) m2 := ⟨⟨D4, C4⟩, R6, rfl, mm2, v2, vc2⟩
      have wR6 : Same (rtW q t) rs r6 := ((ck_rt v1).tr (pb_rt (pq_pb b9))).tr (((ck_rt v3).tr (pb_rt (rq_pb (v4.tr v5)))).tr (ck_rt v6))
      rcases E_tested (κ := κ) (q := q) (T := T) hc hP6 (by omega) (by omega) with ⟨ds7, rs7, S, pd7, pr7, m7, c1, c2, c3, c4', c5, c6, c7, c8⟩ | ⟨ds7, rs7, F, c1, c2, c3, c4', c5, c6⟩
      · left
        have c3' := c3
        obtain ⟨⟨D7, C7⟩, Q7, sk7, mm7, v7, vc7⟩ := c3'
        obtain ⟨hpn7, -⟩ := D7.m
        have ll7 : (L ++ R ++ S).length = L.length + R.length + S.length := by rw [List.length_append, ll2]
        rw [c2, bnd2_t, if_neg (show ¬ (1 : Int32) = 0 by decide)]
        have KQ7 := KQ6.pb c8
        obtain ⟨q8, v8⟩ := r_cl4 (κ := κ) ht Q7 hK12 KQ7.1
        rw [q8]
        have w8 := d_lwAdd_same (κ := κ) ds7 a1 (nI so) (nI L.length) (nI (L ++ R).length) (nI (L ++ R ++ S).length)
        have KD7 := KD4.pd (a := a) hca c7
        have KD8 := d_lwAdd (κ := κ) KD7 hK12 (so, L.length, (L ++ R).length, (L ++ R ++ S).length)
        have hne := c4'.ne
        refine ⟨_, _, L ++ R ++ S, (so, L.length, (L ++ R).length, (L ++ R ++ S).length), pd7, pr7, m7, dev ds7 _ (by rw [c1, bnd_t]) (lwE_e ds7 _ _ _ _ D7 C7), rfl, ⟨⟨D7.lw hc w8, C7.lw w8⟩, Q7.ck v8, sk7, mm7, v7, vc7⟩, KD8, ?_, ⟨L, R, S, [], by simp only [List.append_nil], rfl, ll2, ll7, hso, b4, Or.inr c4'⟩, ⟨R ++ S, by rw [List.append_assoc]⟩, by omega, by omega, (((pd_law b8).tr (pd_law (rd_pd w4))).tr (pd_law c7)).tr (lw_law w8), (wR6.tr (pb_rt c8)).tr (ck_rt v8)⟩
        refine ⟨by rw [gi_ui, if_pos ⟨rfl, rfl⟩, List.length_append]; rfl, by rw [List.length_append]; simp only [List.length_cons, List.length_nil]; omega, fun k hk => ?_⟩
        rw [List.length_append] at hk
        simp only [List.length_cons, List.length_nil] at hk
        have gz : ∀ j, gi (ui (ui rs7 (q + 5) (60 * t + 5 * K.length + 4) (nI (L ++ R ++ S).length)) (q + 6) t (nI (K.length + 1))) (q + 5) j = if j = 60 * t + 5 * K.length + 4 then nI (L ++ R ++ S).length else gi r6 (q + 5) j := fun j => by
          rw [gi_ui, if_neg (fun z => by omega), gi_ui]
          by_cases e : j = 60 * t + 5 * K.length + 4
          · rw [if_pos ⟨rfl, e⟩, if_pos e]
          · rw [if_neg (fun z => e z.2), if_neg e, keep _ _ c8]
        simp only [gz]
        by_cases e : k = K.length
        · subst e
          rw [kg_e, if_neg (by omega), if_neg (by omega), if_neg (by omega), if_neg (by omega), if_pos rfl, h6 _ (by omega), h6 _ (by omega), h6 _ (by omega), h63, g0, g1, g2]
          refine ⟨rfl, rfl, rfl, ?_, rfl⟩
          rw [if_neg (show ¬ (L ++ R ++ S).length = (L ++ R).length by omega)]
        · rw [kg_lt (by omega), if_neg (show ¬ 60 * t + 5 * k = 60 * t + 5 * K.length + 4 by omega), if_neg (show ¬ 60 * t + 5 * k + 1 = 60 * t + 5 * K.length + 4 by omega), if_neg (show ¬ 60 * t + 5 * k + 2 = 60 * t + 5 * K.length + 4 by omega), if_neg (show ¬ 60 * t + 5 * k + 3 = 60 * t + 5 * K.length + 4 by omega), if_neg (show ¬ 60 * t + 5 * k + 4 = 60 * t + 5 * K.length + 4 by omega)]
          exact KQ6.2.2 k (by omega)
      · right
        rw [c3, bnd2_t, if_pos (show (0 : Int32) = 0 from rfl)]
        obtain ⟨s8, e8, f8, w8⟩ := F_lwE hc c2 (nI so) (nI L.length) (nI (L ++ R).length)
        exact ⟨s8, rs7, F, dev ds7 s8 (by rw [c1, bnd_t]) e8, f8, rfl, c4', (((pd_law b8).tr (pd_law (rd_pd w4))).tr (pd_law c5)).tr w8, wR6.tr (pb_rt c6)⟩
    · -- without
      left
      simp only [if_neg kI] at dev
      rw [if_neg kI] at h4 ⊢
      simp only [] at h4
      have D4 := D2.of h4 w4
      simp only [if_true]
      rw [bnd2_t, if_pos (show (0 : Int32) = 0 from rfl)]
      rw [← sk2] at R4
      obtain ⟨q8, v8⟩ := r_cl4 (κ := κ) ht R4 hK12 KQ4.1
      rw [q8]
      have w8 := d_lwAdd_same (κ := κ) s4 a1 (nI so) (nI L.length) (nI (L ++ R).length) (nI (L ++ R).length)
      have KD8 := d_lwAdd (κ := κ) KD4 hK12 (so, L.length, (L ++ R).length, (L ++ R).length)
      refine ⟨_, _, L ++ R, (so, L.length, (L ++ R).length, (L ++ R).length), skp T n pd2, skp T n pd2, m2, dev s4 _ rfl (lwE_e s4 _ _ _ _ D4 C4), rfl, ⟨⟨D4.lw hc w8, C4.lw w8⟩, R4.ck v8, rfl, mm2, v2, vc2⟩, KD8, ?_, ⟨L, R, [], [], by simp only [List.append_nil], rfl, ll2, by rw [ll2]; rfl, hso, b4, Or.inl rfl⟩, ⟨R, rfl⟩, by omega, by omega, ((pd_law b8).tr (pd_law (rd_pd w4))).tr (lw_law w8), (((ck_rt v1).tr (pb_rt (pq_pb b9))).tr ((ck_rt v3).tr (pb_rt (rq_pb v4)))).tr (ck_rt v8)⟩
      refine ⟨by rw [gi_ui, if_pos ⟨rfl, rfl⟩, List.length_append]; rfl, by rw [List.length_append]; simp only [List.length_cons, List.length_nil]; omega, fun k hk => ?_⟩
      rw [List.length_append] at hk
      simp only [List.length_cons, List.length_nil] at hk
      have gz : ∀ j, gi (ui (ui r4 (q + 5) (60 * t + 5 * K.length + 4) (nI (L ++ R).length)) (q + 6) t (nI (K.length + 1))) (q + 5) j = if j = 60 * t + 5 * K.length + 4 then nI (L ++ R).length else gi r3 (q + 5) j := fun j => by
        rw [gi_ui, if_neg (fun z => by omega), gi_ui]
        by_cases e : j = 60 * t + 5 * K.length + 4
        · rw [if_pos ⟨rfl, e⟩, if_pos e]
        · rw [if_neg (fun z => e z.2), if_neg e, keep4]
      simp only [gz]
      by_cases e : k = K.length
      · subst e
        rw [kg_e, if_neg (by omega), if_neg (by omega), if_neg (by omega), if_neg (by omega), if_pos rfl, g0, g1, g2, g3]
        exact ⟨rfl, rfl, rfl, rfl, by rw [if_pos rfl]⟩
      · rw [kg_lt (by omega), if_neg (show ¬ 60 * t + 5 * k = 60 * t + 5 * K.length + 4 by omega), if_neg (show ¬ 60 * t + 5 * k + 1 = 60 * t + 5 * K.length + 4 by omega), if_neg (show ¬ 60 * t + 5 * k + 2 = 60 * t + 5 * K.length + 4 by omega), if_neg (show ¬ 60 * t + 5 * k + 3 = 60 * t + 5 * K.length + 4 by omega), if_neg (show ¬ 60 * t + 5 * k + 4 = 60 * t + 5 * K.length + 4 by omega)]
        exact KQ3.2.2 k (by omega)
  · right
    rw [b3, bnd2_t, if_pos (show (0 : Int32) = 0 from rfl)]
    have b2' := b2
    obtain ⟨-, p2, m2, D2⟩ := b2'
    obtain ⟨s4, e4, h4, w4⟩ := F_takesW b2 (i := 2) (by decide)
    obtain ⟨s8, e8, f8, w8⟩ := F_lwE hc h4 (nI so) (f_Cd_stepCount κ (a1 + 1) ds) (f_Cd_stepCount κ (a1 + 1) ds2)
    refine ⟨s8, rs2, F, fun J => ?_, f8, rfl, b4, ((pd_law b5).tr (pd_law w4)).tr w8, (ck_rt v1).tr (pb_rt (pq_pb b6))⟩
    unfold lwS
    rw [hD.2.1, bnd_t, grd_t hc.2.2.1, b1, bnd_t, D2.2.1, bnd_t, grd_t hc.2.2.1, e4, bnd2_t, if_pos (show (0 : Int32) = 0 from rfl), e8]
end LawSum
