/-! a rule read, both readers -/
def ruW (a1 p j : Nat) : Prop := p = a1 ∧ j = 4 ∨ a1 + 5 ≤ p ∧ p ≤ a1 + 7
def ruleW (a a1 p j : Nat) : Prop := pdW a (a1 + 1) p j ∨ ruW a1 p j
theorem pd_ru {a a1 : Nat} {s1 s2 : AS} (h : Same (pdW a (a1 + 1)) s1 s2) : Same (ruleW a a1) s1 s2 := h.mono (fun _ _ z => Or.inl z)
theorem ru_ru {a a1 : Nat} {s1 s2 : AS} (h : Same (ruW a1) s1 s2) : Same (ruleW a a1) s1 s2 := h.mono (fun _ _ z => Or.inr z)
/-- the class's clauses of a rule -/
def KDu (ds : AS) (a1 : Nat) (K : List c4) : Prop := gi ds a1 4 = nI K.length ∧ K.length ≤ 12 ∧ ∀ k, k < K.length →
  gi ds (a1 + 5) k = nI (kg K k).1 ∧ gi ds (a1 + 6) k = nI (kg K k).2.1 ∧ gi ds (a1 + 7) k = nI (kg K k).2.2.2
theorem KDu.of {ds ds' : AS} {a1 : Nat} {K : List c4} {W : Nat → Nat → Prop} (h : KDu ds a1 K) (hw : Same W ds ds') (h0 : ¬ W a1 4) (h1 : ∀ j d, 5 ≤ d → d < 8 → ¬ W (a1 + d) j) : KDu ds' a1 K :=
  ⟨by rw [(hw _ _ h0).1]; exact h.1, h.2.1, fun k hk => by
    have := h.2.2 k hk
    rw [(hw _ _ (h1 k 5 (by decide) (by decide))).1, (hw _ _ (h1 k 6 (by decide) (by decide))).1, (hw _ _ (h1 k 7 (by decide) (by decide))).1]
    exact this⟩
theorem KDu.pd {ds ds' : AS} {a a1 : Nat} {K : List c4} (ha : a + 4 < a1) (h : KDu ds a1 K) (hw : Same (pdW a (a1 + 1)) ds ds') : KDu ds' a1 K := h.of hw (fun z => by unfold pdW rdW cdW at z; omega) (fun j d h1 h2 z => by unfold pdW rdW cdW at z; omega)
def ruleC (L : List (Nat × Nat)) (c : c4) : Prop := ∃ X S Y, L = X ++ S ++ Y ∧ c.2.1 = X.length ∧ c.2.2.1 = X.length ∧ c.2.2.2 = X.length + S.length ∧ c.1 < 2 ∧ TestR S
theorem ruleC.mono {L Z : List (Nat × Nat)} {c : c4} (h : ruleC L c) : ruleC (L ++ Z) c := by
  obtain ⟨X, S, Y, rfl, h2⟩ := h
  exact ⟨X, S, Y ++ Z, by simp only [List.append_assoc], h2⟩
section RuAdd
variable {κ : Ko}
theorem d_ruAdd_same (ds : AS) (a1 : Nat) (x y z : Int32) : Same (ruW a1) ds (f_Ru_add κ a1 x y z ds) := by
  unfold f_Ru_add
  exact ((((Same.rf _ ds).gput (fun j => Or.inr ⟨by omega, by omega⟩)).gput (fun j => Or.inr ⟨by omega, by omega⟩)).gput (fun j => Or.inr ⟨by omega, by omega⟩)).ui (Or.inl ⟨rfl, rfl⟩)
theorem d_ruAdd {ds : AS} {a1 : Nat} {K : List c4} (h : KDu ds a1 K) (hl : K.length < 12) (c : c4) : KDu (f_Ru_add κ a1 (nI c.1) (nI c.2.1) (nI c.2.2.2) ds) a1 (K ++ [c]) := by
  unfold f_Ru_add
  have ne : ∀ (s : AS) (d j : Nat) (v : Int32), 0 < d → gi (ui s (a1 + d) j v) a1 4 = gi s a1 4 := fun s d j v hd => by rw [gi_ui, if_neg (fun z => by omega)]
  rw [gput_n h.1 hl (by decide)]
  rw [gput_n ((ne _ 5 _ _ (by decide)).trans h.1) hl (by decide)]
  rw [gput_n ((ne _ 6 _ _ (by decide)).trans ((ne _ 5 _ _ (by decide)).trans h.1)) hl (by decide)]
  rw [(ne _ 7 _ _ (by decide)).trans ((ne _ 6 _ _ (by decide)).trans ((ne _ 5 _ _ (by decide)).trans h.1)), nI_1]
  refine ⟨by rw [gi_ui, if_pos ⟨rfl, rfl⟩, List.length_append]; rfl, by rw [List.length_append]; simp only [List.length_cons, List.length_nil]; omega, fun k hk => ?_⟩
  rw [List.length_append] at hk
  simp only [List.length_cons, List.length_nil] at hk
  have g : ∀ d, 5 ≤ d → d < 8 → gi (ui (ui (ui (ui ds (a1 + 5) K.length (nI c.1)) (a1 + 6) K.length (nI c.2.1)) (a1 + 7) K.length (nI c.2.2.2)) a1 4 (nI (K.length + 1))) (a1 + d) k = if k = K.length then (if d = 5 then nI c.1 else if d = 6 then nI c.2.1 else nI c.2.2.2) else gi ds (a1 + d) k := by
    intro d h1 h2
    simp only [gi_ui]
    rw [if_neg (show ¬ (a1 + d = a1 ∧ k = 4) from fun z => by omega)]
    by_cases e : k = K.length
    · subst e
      rw [if_pos rfl]
      have hc : d = 5 ∨ d = 6 ∨ d = 7 := by omega
      rcases hc with rfl | rfl | rfl
      · rw [if_neg (fun z => by omega), if_neg (fun z => by omega), if_pos ⟨rfl, rfl⟩, if_pos rfl]
      · rw [if_neg (fun z => by omega), if_pos ⟨rfl, rfl⟩, if_neg (by decide), if_pos rfl]
      · rw [if_pos ⟨rfl, rfl⟩, if_neg (by decide), if_neg (by decide)]
    · rw [if_neg (show ¬ (a1 + d = a1 + 7 ∧ k = K.length) from fun z => e z.2), if_neg (show ¬ (a1 + d = a1 + 6 ∧ k = K.length) from fun z => e z.2), if_neg (show ¬ (a1 + d = a1 + 5 ∧ k = K.length) from fun z => e z.2), if_neg e]
  rw [g 5 (by decide) (by decide), g 6 (by decide) (by decide), g 7 (by decide) (by decide)]
  by_cases e : k = K.length
  · subst e
    simp only [if_true]
    rw [kg_e]
    exact ⟨rfl, rfl, rfl⟩
  · rw [if_neg e, if_neg e, if_neg e, kg_lt (by omega)]
    exact h.2.2 k (by omega)
end RuAdd
theorem DR.ru {κ : Ko} {ds ds' : AS} {a ta a1 t iw n p : Nat} {T : Nat → Nat} {f m : Int32} (hc : PC κ a ta (a1 + 1) t iw) (h : DR κ ds a ta (a1 + 1) iw n T p f m) (hw : Same (ruW a1) ds ds') : DR κ ds' a ta (a1 + 1) iw n T p f m := by
  have h0 := hc.1
  have h1 := hc.2.1
  have na : ∀ j, ¬ ruW a1 a j := fun j z => by unfold ruW at z; omega
  have nt : ∀ j, ¬ ruW a1 ta j := fun j z => by unfold ruW at z; omega
  refine ⟨⟨⟨by rw [(hw a 0 (na _)).2.2]; exact h.1.1.1, h.1.1.2.1, h.1.1.2.2.1, by rw [(hw a 1 (na _)).1]; exact h.1.1.2.2.2.1, fun k hk => by rw [(hw ta k (nt _)).1]; exact h.1.1.2.2.2.2.1 k hk, h.1.1.2.2.2.2.2⟩, by rw [(hw a 2 (na _)).1]; exact h.1.2.1, h.1.2.2.1, by rw [(hw a 3 (na _)).1]; exact h.1.2.2.2.1, by rw [(hw a 4 (na _)).1]; exact h.1.2.2.2.2⟩, by rw [(hw a 5 (na _)).2.2]; exact h.2.1, by rw [(hw a 6 (na _)).2.2]; exact h.2.2⟩
theorem CDL.ru {ds ds' : AS} {a1 : Nat} {L : List (Nat × Nat)} (h : CDL ds (a1 + 1) L) (hw : Same (ruW a1) ds ds') : CDL ds' (a1 + 1) L := h.of hw (fun z => by unfold ruW at z; omega) (fun j z => by unfold ruW at z; omega) (fun j z => by unfold ruW at z; omega)
theorem FS.ru {κ : Ko} {ds ds' : AS} {a ta a1 t iw n F : Nat} {T : Nat → Nat} (hc : PC κ a ta (a1 + 1) t iw) (h : FS κ ds a ta (a1 + 1) iw n T F) (hw : Same (ruW a1) ds ds') : FS κ ds' a ta (a1 + 1) iw n T F := by
  obtain ⟨hF, p, m, hD⟩ := h
  exact ⟨hF, p, m, hD.ru hc hw⟩
def rtY (q t p j : Nat) : Prop := rtW q t p j ∨ p = q ∧ j = 17
theorem ph_Y {q t : Nat} {s1 s2 : AS} (h : Same (phW q t) s1 s2) : Same (rtY q t) s1 s2 := h.mono (fun _ _ z => z.elim (fun y => Or.inl (Or.inl y)) Or.inr)
theorem rt_Y {q t : Nat} {s1 s2 : AS} (h : Same (rtW q t) s1 s2) : Same (rtY q t) s1 s2 := h.mono (fun _ _ z => Or.inl z)
section RuleLoop
variable {κ : Ko} {a ta a1 t n q : Nat} {T : Nat → Nat}
/-- behind the clause's word -/
noncomputable def ruS (κ : Ko) (k : Nat → AS → Option (Int32 × AS)) (d a a1 : Nat) (v2 x4 : Int32) (s3 : AS) : Option (Int32 × AS) := bnd (gr s3 a 5) (fun c5 => grd (ly κ c5 = (0, 4)) (bnd (g_Rd_test κ 9 (f_Rd_fact κ 9 10) a (0 : Int32) s3) (fun s7 => bnd (gr s7 a 5) (fun c9 => grd (ly κ c9 = (0, 4)) (bnd2 (f_Rd_takesByte κ a (59 : Int32) (f_Ru_add κ a1 v2 (f_Cd_stepCount κ c5 s3) (f_Cd_stepCount κ c9 s7) s7)) (fun v11 s12 => L_Rd_readRule_28 κ k d a a1 v11 (x4 + 1) s12))))))
theorem readRule_e (κ : Ko) (k : Nat → AS → Option (Int32 × AS)) (d a a1 : Nat) (x3 x4 : Int32) (st : AS) : L_Rd_readRule_28 κ k (d + 1) a a1 x3 x4 st = if 12 < x4 then k a st else if x3 = 0 then k a st else bnd2 (f_Rd_clauseWord κ a 10 x4 st) (fun v2 s3 => ruS κ k d a a1 v2 x4 s3) := rfl
theorem F_ruS (hc : PC κ a ta (a1 + 1) t 9) (kd : Nat → AS → Option (Int32 × AS)) {F : Nat} {ds : AS} (h : FS κ ds a ta (a1 + 1) 9 n T F) (d : Nat) (v2 x4 : Int32) : ∃ ds', ruS κ kd (d + 1) a a1 v2 x4 ds = kd a ds' ∧ FS κ ds' a ta (a1 + 1) 9 n T F ∧ Same (ruleW a a1) ds ds' := by
  have h' := h
  obtain ⟨-, p, m, hD⟩ := h'
  obtain ⟨s1, e1, h1, w1⟩ := F_test hc h 10 0
  have h1' := h1
  obtain ⟨-, p1, m1, hD1⟩ := h1'
  have w2 := d_ruAdd_same (κ := κ) s1 a1 v2 (f_Cd_stepCount κ (a1 + 1) ds) (f_Cd_stepCount κ (a1 + 1) s1)
  obtain ⟨s3, e3, h3, w3⟩ := F_takes (h1.ru hc w2) (x := 59) (b := 59) rfl (by decide)
  refine ⟨s3, ?_, h3, ((pd_ru w1).tr (ru_ru w2)).tr (pd_ru w3)⟩
  unfold ruS
  rw [hD.2.1, bnd_t, grd_t hc.2.2.1, e1, bnd_t, hD1.2.1, bnd_t, grd_t hc.2.2.1, e3, bnd2_t, L_Rd_readRule_28]
  by_cases z : 12 < x4 + 1
  · rw [if_pos z]
  · rw [if_neg z, if_pos rfl]
/-- the rule so far -/
def RULS (κ : Ko) (ds rs : AS) (a ta a1 q t n : Nat) (T : Nat → Nat) (pd pr m : Nat) (L : List (Nat × Nat)) (K : List c4) : Prop :=
  PS κ ds rs a ta (a1 + 1) 9 q t n T pd pr L L m ∧ KDu ds a1 K ∧ KQ rs q t K ∧ (∀ c, c ∈ K → ruleC L c) ∧ L.length ≤ pd
theorem E_ruleL (hc : PC κ a ta (a1 + 1) t 9) (ht12 : 12 ≤ t ∧ t < 18) (hca : a + 4 < a1) (kd : Nat → AS → Option (Int32 × AS)) (kq : Int32 → AS → Option (Int32 × AS)) : ∀ (r pd pr m dd dq x5 : Nat) (L : List (Nat × Nat)) (K : List c4) (ds rs : AS), r = n - pd → RULS κ ds rs a ta a1 q t n T pd pr m L K → gi rs q 17 = nI x5 → K.length ≤ x5 → x5 ≤ 12 → 100 ≤ dd + x5 → 1000 ≤ dq + pd →
    (∃ ds' rs' pd' pr' m' L' K', L_Rd_readRule_28 κ kd dd a a1 1 (nI x5) ds = kd a ds' ∧ bnd2 (f_R_clauseHere κ q rs) (fun v s => L_R_clausesHere_5 κ kq dq q v s) = kq 1 rs' ∧ RULS κ ds' rs' a ta a1 q t n T pd' pr' m' L' K' ∧ Same (ruleW a a1) ds ds' ∧ Same (rtY q t) rs rs') ∨
    (∃ ds' rs' F, L_Rd_readRule_28 κ kd dd a a1 1 (nI x5) ds = kd a ds' ∧ FS κ ds' a ta (a1 + 1) 9 n T F ∧ bnd2 (f_R_clauseHere κ q rs) (fun v s => L_R_clausesHere_5 κ kq dq q v s) = kq 0 rs' ∧ gi rs' q 12 = nI F ∧ Same (ruleW a a1) ds ds' ∧ Same (rtY q t) rs rs') := by
  intro r
  induction r using Nat.strongRecOn with
  | ind r ih =>
    intro pd pr m dd dq x5 L K ds rs hr h h17 hKx hx5 hdd hdq
    obtain ⟨hP, hKD, hKQ, hcl, hl⟩ := h
    obtain ⟨⟨hD, hC⟩, hR, hsk, hm, hv, hvc⟩ := hP
    obtain ⟨hpn, hn⟩ := hD.m
    have hlo := skp_lo (T := T) hpn
    have hss := skp_skp (T := T) hpn
    have hwl := wen_lo (T := T) hlo.2
    have ht : t < 18 := ht12.2
    obtain ⟨dd, rfl⟩ : ∃ e, dd = e + 2 := ⟨dd - 2, by omega⟩
    obtain ⟨dq, rfl⟩ : ∃ e, dq = e + 1 := ⟨dq - 1, by omega⟩
    have hk6 : t / 6 = 2 := by omega
    have hR0 := r_here (κ := κ) hR rfl hk6 (by omega) h17 hx5 (by decide)
    rw [if_neg (by decide), if_neg (by decide)] at hR0
    rw [readRule_e, if_neg (show ¬ 12 < nI x5 from nI_nlt (a := 12) hx5 (by decide)), if_neg (show ¬ (1 : Int32) = 0 by decide)]
    obtain ⟨s2, e2, h2, w2⟩ := d_cw hD.1 (i := 10) (x5 := x5) (by decide) rfl hx5
    rw [hsk] at *
    rw [e2, bnd2_t]
    have wD2 : Same (pdW a (a1 + 1)) ds s2 := rd_pd w2
    have hwl1 : ∀ j, wAm T (skp T n pr) (wen T n (skp T n pr)) (lw 10) 0 = some j → skp T n pr < wen T n (skp T n pr) ∧ j < 2 := fun j hj => by
      have := wAm_e _ _ _ hj (lw_gd 10 (by decide)).1
      have e : (lw 10).length = 2 := rfl
      omega
    have badEnd : ∀ (s3 : AS) (rs3 : AS) (F : Nat) (v4 : Int32), FS κ s3 a ta (a1 + 1) 9 n T F → Same (ruleW a a1) ds s3 → f_R_clauseHere κ q rs = some (0, rs3) → gi rs3 q 12 = nI F → Same (rtY q t) rs rs3 →
        ∃ ds' rs' F', ruS κ kd (dd + 1) a a1 v4 (nI x5) s3 = kd a ds' ∧ FS κ ds' a ta (a1 + 1) 9 n T F' ∧ bnd2 (f_R_clauseHere κ q rs) (fun v s => L_R_clausesHere_5 κ kq (dq + 1) q v s) = kq 0 rs' ∧ gi rs' q 12 = nI F' ∧ Same (ruleW a a1) ds ds' ∧ Same (rtY q t) rs rs' := by
      intro s3 rs3 F v4 hF hw hcr hwr hwq
      have hq : bnd2 (f_R_clauseHere κ q rs) (fun v s => L_R_clausesHere_5 κ kq (dq + 1) q v s) = kq 0 rs3 := by rw [hcr, bnd2_t, L_R_clausesHere_5, if_pos rfl]
      obtain ⟨s5, e5, h5, w5⟩ := F_ruS hc kd hF dd v4 (nI x5)
      exact ⟨s5, rs3, F, e5, h5, hq, hwr, hw.tr w5, hwq⟩
    cases hO : wAm T (skp T n pr) (wen T n (skp T n pr)) (lw 10) 0 with
    | none =>
      right
      rw [hO] at hR0 h2
      obtain ⟨rs3, a1', a2', a3'⟩ := hR0
      have D2 := hD.of h2 w2
      exact badEnd s2 rs3 (1 + 8 * skp T n pr + 0) (oI none) (FS.mk (by omega) (by omega) D2) (pd_ru wD2) a1' a2' (ph_Y a3')
    | some j =>
      rw [hO] at hR0 h2
      simp only [] at hR0 h2
      obtain ⟨hj1, hj3⟩ := hwl1 j hO
      have D2 := hD.of h2 w2
      by_cases k12 : x5 = 12
      · right
        obtain ⟨rs3, a1', a2', a3'⟩ := hR0.1 k12
        rw [if_pos k12] at D2
        exact badEnd s2 rs3 (1 + 8 * skp T n pr + 4) (oI (some j)) (FS.mk (by omega) (by omega) D2) (pd_ru wD2) a1' a2' (ph_Y a3')
      · obtain ⟨rs3, a1', a2', a3', a4'⟩ := hR0.2 (by omega)
        rw [if_neg k12] at D2
        have C2 : CDL s2 (a1 + 1) L := hC.rd hc w2
        have KQ3 := hKQ.ph a4'
        have KD2 := hKD.pd (a := a) hca wD2
        have hcr : f_R_clauseHere κ q rs = bnd2 (f_R_clauseOf κ q (nI j) 0 rs3) gGr := by rw [a1']; unfold actK; rw [if_neg (by decide), if_neg (by decide)]
        obtain ⟨r4, g4, k4, v4⟩ := r_pass (κ := κ) a2'.1
        have Q4 := a2'.of k4 v4
        have KQ4 := KQ3.pb (rq_pb (t := t) v4)
        have hK12 : K.length < 12 := by omega
        obtain ⟨q5, v5⟩ := r_cl1 (κ := κ) ht Q4 KQ4 hK12 (nI j) 0 g4
        rw [if_pos (show (0 : Int32) = 0 from rfl)] at q5
        have keep : ∀ (r r' : AS), Same (pbW q t) r r' → ∀ j, gi r' (q + 5) j = gi r (q + 5) j := fun r r' hw j => (hw _ _ (fun z => by unfold pbW cqW at z; omega)).1
        generalize hS5 : ui (ui r4 (q + 5) (60 * t + 5 * K.length) (nI j)) (q + 5) (60 * t + 5 * K.length + 1) (nI L.length) = r5 at *
        have Q5 := Q4.ck v5
        obtain ⟨q6, v6⟩ := r_cl2 (κ := κ) ht Q5 hK12 0
        rw [if_pos (show (0 : Int32) = 0 from rfl)] at q6
        generalize hS6 : ui (ui r5 (q + 5) (60 * t + 5 * K.length + 2) (nI L.length)) (q + 5) (60 * t + 5 * K.length + 3) (-1) = r6 at *
        have Q6 := Q5.ck v6
        obtain ⟨q7, v7⟩ := r_cl3 (κ := κ) ht Q6 hK12
        generalize hS7 : ui r6 (q + 5) (60 * t + 5 * K.length + 3) (nI L.length) = r7 at *
        have Q7 := Q6.ck v7
        have f0 : gi r7 (q + 5) (60 * t + 5 * K.length) = nI j := by rw [← hS7, gi_ui, if_neg (fun z => by omega), ← hS6, gi_ui, if_neg (fun z => by omega), gi_ui, if_neg (fun z => by omega), ← hS5, gi_ui, if_neg (fun z => by omega), gi_ui, if_pos ⟨rfl, rfl⟩]
        have f1 : gi r7 (q + 5) (60 * t + 5 * K.length + 1) = nI L.length := by rw [← hS7, gi_ui, if_neg (fun z => by omega), ← hS6, gi_ui, if_neg (fun z => by omega), gi_ui, if_neg (fun z => by omega), ← hS5, gi_ui, if_pos ⟨rfl, rfl⟩]
        have f2 : gi r7 (q + 5) (60 * t + 5 * K.length + 2) = nI L.length := by rw [← hS7, gi_ui, if_neg (fun z => by omega), ← hS6, gi_ui, if_neg (fun z => by omega), gi_ui, if_pos ⟨rfl, rfl⟩]
        have f3 : gi r7 (q + 5) (60 * t + 5 * K.length + 3) = nI L.length := by rw [← hS7, gi_ui, if_pos ⟨rfl, rfl⟩]
        have KQ7 : KQ r7 q t K := by
          rw [← hS7, ← hS6, ← hS5]
          exact KQ4.of (W := fun p j => p = q + 5 ∧ 60 * t + 5 * K.length ≤ j) (((((Same.rf _ r4).ui ⟨rfl, by omega⟩).ui ⟨rfl, by omega⟩).ui ⟨rfl, by omega⟩).ui ⟨rfl, by omega⟩ |>.ui ⟨rfl, by omega⟩) (fun z => by omega) (fun j hj z => by omega)
        have wR7 : Same (rtW q t) rs3 r7 := (pb_rt (rq_pb v4)).tr (((ck_rt v5).tr (ck_rt v6)).tr (ck_rt v7))
        have l7 : gi r7 q 17 = nI (x5 + 1) := by rw [(wR7 q 17 (fun z => by unfold rtW pbW cqW ckW at z; omega)).1]; exact a3'
        rw [q5, q6, q7] at hcr
        have hP7 : PS κ s2 r7 a ta (a1 + 1) 9 q t n T (wen T n (skp T n pr)) (wen T n (skp T n pr)) L L m := ⟨⟨D2, C2⟩, Q7, rfl, hm, hv, hvc⟩
        rcases E_tested (κ := κ) (q := q) (T := T) hc hP7 (by omega) (by omega) with ⟨ds8, rs8, S, pd8, pr8, m8, c1, c2, c3, c4', c5, c6, c7, c8⟩ | ⟨ds8, rs8, F, c1, c2, c3, c4', c5, c6⟩
        · obtain ⟨⟨D8, C8⟩, Q8, sk8, mm8, v8, vc8⟩ := c3
          obtain ⟨hpn8, -⟩ := D8.m
          have hlo8 := skp_lo (T := T) hpn8
          have hss8 := skp_skp (T := T) hpn8
          have ll8 : (L ++ S).length = L.length + S.length := List.length_append
          have KQ8 := KQ7.pb c8
          obtain ⟨q9, v9⟩ := r_cl4 (κ := κ) ht Q8 hK12 KQ8.1
          rw [c2, bnd2_t, if_neg (show ¬ (1 : Int32) = 0 by decide), q9, bnd2_t] at hcr
          unfold gGr at hcr
          rw [grd_t (Or.inr rfl)] at hcr
          have w9 := d_ruAdd_same (κ := κ) ds8 a1 (nI j) (nI L.length) (nI (L ++ S).length)
          have KD8 := KD2.pd (a := a) hca c7
          have KD9 := d_ruAdd (κ := κ) KD8 hK12 (j, L.length, L.length, (L ++ S).length)
          have D9 := D8.ru hc w9
          have C9 := C8.ru w9
          have Q9 := Q8.ck v9
          have hne := c4'.ne
          have KQ9 : KQ (ui (ui rs8 (q + 5) (60 * t + 5 * K.length + 4) (nI (L ++ S).length)) (q + 6) t (nI (K.length + 1))) q t (K ++ [(j, L.length, L.length, (L ++ S).length)]) := by
            refine ⟨by rw [gi_ui, if_pos ⟨rfl, rfl⟩, List.length_append]; rfl, by rw [List.length_append]; simp only [List.length_cons, List.length_nil]; omega, fun k hk => ?_⟩
            rw [List.length_append] at hk
            simp only [List.length_cons, List.length_nil] at hk
            have gz : ∀ j, gi (ui (ui rs8 (q + 5) (60 * t + 5 * K.length + 4) (nI (L ++ S).length)) (q + 6) t (nI (K.length + 1))) (q + 5) j = if j = 60 * t + 5 * K.length + 4 then nI (L ++ S).length else gi r7 (q + 5) j := fun j => by
              rw [gi_ui, if_neg (fun z => by omega), gi_ui]
              by_cases e : j = 60 * t + 5 * K.length + 4
              · rw [if_pos ⟨rfl, e⟩, if_pos e]
              · rw [if_neg (fun z => e z.2), if_neg e, keep _ _ c8]
            simp only [gz]
            by_cases e : k = K.length
            · subst e
              rw [kg_e, if_neg (by omega), if_neg (by omega), if_neg (by omega), if_neg (by omega), if_pos rfl, f0, f1, f2, f3]
              refine ⟨rfl, rfl, rfl, ?_, rfl⟩
              rw [if_neg (show ¬ (L ++ S).length = L.length by omega)]
            · rw [kg_lt (by omega), if_neg (show ¬ 60 * t + 5 * k = 60 * t + 5 * K.length + 4 by omega), if_neg (show ¬ 60 * t + 5 * k + 1 = 60 * t + 5 * K.length + 4 by omega), if_neg (show ¬ 60 * t + 5 * k + 2 = 60 * t + 5 * K.length + 4 by omega), if_neg (show ¬ 60 * t + 5 * k + 3 = 60 * t + 5 * K.length + 4 by omega), if_neg (show ¬ 60 * t + 5 * k + 4 = 60 * t + 5 * K.length + 4 by omega)]
              exact KQ7.2.2 k (by omega)
          have hcl9 : ∀ c, c ∈ K ++ [(j, L.length, L.length, (L ++ S).length)] → ruleC (L ++ S) c := by
            intro c hcm
            rw [List.mem_append, List.mem_singleton] at hcm
            rcases hcm with hcm | rfl
            · exact (hcl c hcm).mono
            · exact ⟨L, S, [], by simp only [List.append_nil], rfl, rfl, ll8, hj3, c4'⟩
          have wR9 : Same (rtY q t) rs (ui (ui rs8 (q + 5) (60 * t + 5 * K.length + 4) (nI (L ++ S).length)) (q + 6) t (nI (K.length + 1))) := ((ph_Y a4').tr (rt_Y wR7)).tr ((rt_Y (pb_rt c8)).tr (rt_Y (ck_rt v9)))
          have l9 : gi (ui (ui rs8 (q + 5) (60 * t + 5 * K.length + 4) (nI (L ++ S).length)) (q + 6) t (nI (K.length + 1))) q 17 = nI (x5 + 1) := by rw [(v9 q 17 (fun z => by unfold ckW at z; omega)).1, (c8 q 17 (fun z => by unfold pbW cqW at z; omega)).1]; exact l7
          have hdev : ruS κ kd (dd + 1) a a1 (oI (some j)) (nI x5) s2 = bnd2 (f_Rd_takesByte κ a (59 : Int32) (f_Ru_add κ a1 (nI j) (nI L.length) (nI (L ++ S).length) ds8)) (fun v11 s12 => L_Rd_readRule_28 κ kd (dd + 1) a a1 v11 (nI x5 + 1) s12) := by
            unfold ruS f_Cd_stepCount
            rw [D2.2.1, bnd_t, grd_t hc.2.2.1, c1, bnd_t, D8.2.1, bnd_t, grd_t hc.2.2.1, C2.1, C8.1]
            rfl
          rw [hdev]
          generalize f_Ru_add κ a1 (nI j) (nI L.length) (nI (L ++ S).length) ds8 = s9 at *
          generalize ui (ui rs8 (q + 5) (60 * t + 5 * K.length + 4) (nI (L ++ S).length)) (q + 6) t (nI (K.length + 1)) = r9 at *
          have wD9 : Same (ruleW a a1) ds s9 := ((pd_ru wD2).tr (pd_ru c7)).tr (ru_ru w9)
          rw [hcr, bnd2_t, L_R_clausesHere_5, if_neg (show ¬ (1 : Int32) = 0 by decide)]
          have tk3 : ∀ b, tks T n pd8 0 b = true ↔ (skp T n pd8 < n ∧ T (skp T n pd8) = b) := fun b => by unfold tks; rw [decide_eq_true_eq]; exact ⟨fun z => z.2, fun z => ⟨rfl, z⟩⟩
          have hT3 : skp T n pd8 < n → T (skp T n pd8) < 256 := fun z => (D9.1.1.2.2.2.2.1 _ z).2
          have hnx3 : nxt T n pr8 = if skp T n pd8 < n then nI (T (skp T n pd8)) else -1 := by unfold nxt; rw [sk8]
          obtain ⟨r10, g10, k10, v10⟩ := r_see (κ := κ) Q9.1
          have Q10 := Q9.of k10 v10
          rw [← sk8] at Q10
          rw [g10, bnd2_t]
          by_cases k59 : tks T n pd8 0 59 = true
          · obtain ⟨z1, z2⟩ := (tk3 _).mp k59
            obtain ⟨s10, e10, h10, w10⟩ := d_takes1 D9.1 (x := 59) (b := 59) rfl (by decide) k59
            have D10 := D9.of h10 w10
            have C10 := C9.rd hc w10
            rw [e10, bnd2_t, if_pos (show nxt T n pr8 = 59 by rw [hnx3, if_pos z1, z2]; rfl), Q10.1.2.1, nI_1, nI_1]
            have w11 : Same (rqW q) r10 (ui r10 q 11 (nI (skp T n pd8 + 1))) := rq_11 (Same.rf _ _)
            have Q11 := Q10.of (Q10.1.at (p' := skp T n pd8 + 1) (by omega)) w11
            have hL11 : RULS κ s10 (ui r10 q 11 (nI (skp T n pd8 + 1))) a ta a1 q t n T (skp T n pd8 + 1) (skp T n pd8 + 1) m8 (L ++ S) (K ++ [(j, L.length, L.length, (L ++ S).length)]) := ⟨⟨⟨D10, C10⟩, Q11, rfl, mm8, v8, vc8⟩, KD9.pd (a := a) hca (rd_pd w10), KQ9.pb (rq_pb (v10.tr w11)), hcl9, by omega⟩
            have h175 : gi (ui r10 q 11 (nI (skp T n pd8 + 1))) q 17 = nI (x5 + 1) := by rw [((v10.tr w11) q 17 (fun z => by unfold rqW at z; omega)).1]; exact l9
            rcases ih (n - (skp T n pd8 + 1)) (by omega) (skp T n pd8 + 1) (skp T n pd8 + 1) m8 (dd + 1) dq (x5 + 1) (L ++ S) _ s10 _ rfl hL11 h175 (by rw [List.length_append]; simp only [List.length_cons, List.length_nil]; omega) (by omega) (by omega) (by omega) with ⟨ds', rs', pd', pr', m', L', K', b1, b2, b3, b4, b5⟩ | ⟨ds', rs', F, b1, b2, b3, b4, b5, b6⟩
            · left
              exact ⟨ds', rs', pd', pr', m', L', K', b1, b2, b3, (wD9.tr (pd_ru (rd_pd w10))).tr b4, (wR9.tr (rt_Y (pb_rt (rq_pb (v10.tr w11))))).tr b5⟩
            · right
              exact ⟨ds', rs', F, b1, b2, b3, b4, (wD9.tr (pd_ru (rd_pd w10))).tr b5, (wR9.tr (rt_Y (pb_rt (rq_pb (v10.tr w11))))).tr b6⟩
          · left
            obtain ⟨p10, s10, e10, h10, -, q10, w10⟩ := d_takes0 D9.1 (x := 59) (b := 59) rfl (by decide) (Bool.eq_false_iff.mpr k59)
            rw [q10 rfl] at h10
            have D10 := D9.of h10 w10
            have C10 := C9.rd hc w10
            rw [e10, bnd2_t, L_Rd_readRule_28, if_pos (show (0 : Int32) = 0 from rfl), ite_self, if_neg (show ¬ nxt T n pr8 = 59 from fun z => k59 (by
              rw [tk3]
              rw [hnx3] at z
              by_cases zz : skp T n pd8 < n
              · have := hT3 zz
                rw [if_pos zz] at z
                exact ⟨zz, (nI_eq (b := 59) (by omega) (by decide)).mp z⟩
              · rw [if_neg zz] at z
                exact absurd z (by decide)))]
            exact ⟨s10, r10, skp T n pd8, skp T n pd8, m8, L ++ S, _, rfl, rfl, ⟨⟨⟨D10, C10⟩, Q10, rfl, mm8, v8, vc8⟩, KD9.pd (a := a) hca (rd_pd w10), KQ9.pb (rq_pb v10), hcl9, by omega⟩, wD9.tr (pd_ru (rd_pd w10)), wR9.tr (rt_Y (pb_rt (rq_pb v10)))⟩
        · right
          rw [c3, bnd2_t, if_pos (show (0 : Int32) = 0 from rfl), bnd2_t] at hcr
          unfold gGr at hcr
          rw [grd_t (Or.inl rfl)] at hcr
          have c2' := c2
          obtain ⟨-, p8, m8, D8⟩ := c2'
          have w9 := d_ruAdd_same (κ := κ) ds8 a1 (nI j) (f_Cd_stepCount κ (a1 + 1) s2) (f_Cd_stepCount κ (a1 + 1) ds8)
          obtain ⟨s10, e10, h10, w10⟩ := F_takes (c2.ru hc w9) (x := 59) (b := 59) rfl (by decide)
          refine ⟨s10, rs8, F, ?_, h10, by rw [hcr, bnd2_t, L_R_clausesHere_5, if_pos rfl], c4', (((pd_ru wD2).tr (pd_ru c5)).tr (ru_ru w9)).tr (pd_ru w10), ((ph_Y a4').tr (rt_Y wR7)).tr (rt_Y (pb_rt c6))⟩
          unfold ruS
          rw [D2.2.1, bnd_t, grd_t hc.2.2.1, c1, bnd_t, D8.2.1, bnd_t, grd_t hc.2.2.1, show oI (some j) = nI j from rfl, e10, bnd2_t, L_Rd_readRule_28]
          by_cases z : 12 < nI x5 + 1
          · rw [if_pos z]
          · rw [if_neg z, if_pos rfl]
end RuleLoop
