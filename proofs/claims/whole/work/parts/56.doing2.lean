/-! a doing's clauses in step -/
theorem nfl_0 {T : Nat → Nat} {n p lo hi : Nat} (h : nfl T n p lo hi = 0) : lo ≤ nvl5 T (skp T n p) (den T n (skp T n p)) ∧ nvl5 T (skp T n p) (den T n (skp T n p)) ≤ hi := by
  unfold nfl at h
  split at h
  · omega
  · split at h
    · omega
    · rename_i z8 z9
      have := not_or.mp z9
      exact Classical.not_not.mp this.2
theorem KQd_add {r4 r' : AS} {q t : Nat} {K : List c4} (h : KQd r4 q t K) (hk : K.length < 12) (c : c4) (h6 : gi r' (q + 6) t = nI (K.length + 1)) (h0 : gi r' (q + 5) (60 * t + 5 * K.length) = nI c.1) (h1 : gi r' (q + 5) (60 * t + 5 * K.length + 1) = nI c.2.1) (h2 : gi r' (q + 5) (60 * t + 5 * K.length + 2) = nI c.2.2.1) (hs : ∀ j, j < 60 * t + 5 * K.length → gi r' (q + 5) j = gi r4 (q + 5) j) : KQd r' q t (K ++ [c]) := by
  refine ⟨by rw [h6, List.length_append]; rfl, by rw [List.length_append]; simp only [List.length_cons, List.length_nil]; omega, fun k hk' => ?_⟩
  rw [List.length_append] at hk'
  simp only [List.length_cons, List.length_nil] at hk'
  by_cases e : k = K.length
  · subst e
    rw [kg_e]
    exact ⟨h0, h1, h2⟩
  · rw [kg_lt (by omega), hs _ (by omega), hs _ (by omega), hs _ (by omega)]
    exact h.2.2 k (by omega)
section DoLoop
variable {κ : Ko} {a ta A iw a1 t n q : Nat} {T : Nat → Nat}
noncomputable def dgJ (κ : Ko) (k : Nat → AS → Option (Int32 × AS)) (d a a1 : Nat) (x4 : Int32) (s17 : AS) : Option (Int32 × AS) := bnd2 (f_Rd_takesByte κ a (59 : Int32) s17) (fun v18 s19 => L_Rd_readDoing_14 κ k d a a1 v18 (x4 + 1) s19)
noncomputable def dgS (κ : Ko) (a a1 : Nat) (v1 : Int32) (J : AS → Option (Int32 × AS)) (s2 : AS) : Option (Int32 × AS) := if v1 = 0 then bnd2 (f_Rd_number κ a (1 : Int32) (99 : Int32) s2) (fun v7 s8 => bnd2 (f_Rd_takesWord κ a 7 s8) (fun v9 s10 => if v9 = 0 then J (f_Dg_add κ a1 v1 v7 (1 : Int32) (0 : Int32) s10) else bnd2 (f_Rd_number κ a (1 : Int32) (60 : Int32) s10) (fun v11 s12 => J (f_Dg_add κ a1 v1 v7 v11 (0 : Int32) s12)))) else if v1 = 1 then bnd2 (f_Rd_neededWord κ a 8 s2) (fun v3 s4 => bnd2 (f_Rd_number κ a (1 : Int32) (199 : Int32) s4) (fun v5 s6 => J (f_Dg_add κ a1 v1 v5 (1 : Int32) v3 s6))) else J (f_Dg_add κ a1 v1 (0 : Int32) (1 : Int32) (0 : Int32) s2)
theorem readDoing_e (κ : Ko) (k : Nat → AS → Option (Int32 × AS)) (d a a1 : Nat) (x3 x4 : Int32) (st : AS) : L_Rd_readDoing_14 κ k (d + 1) a a1 x3 x4 st = if 12 < x4 then k a st else if x3 = 0 then k a st else bnd2 (f_Rd_clauseWord κ a 6 x4 st) (fun v1 s2 => dgS κ a a1 v1 (dgJ κ k d a a1 x4) s2) := rfl
theorem F_dgJ (kd : Nat → AS → Option (Int32 × AS)) {F : Nat} {ds : AS} (h : FS κ ds a ta A iw n T F) (d : Nat) (x4 : Int32) : ∃ ds', dgJ κ kd (d + 1) a a1 x4 ds = kd a ds' ∧ FS κ ds' a ta A iw n T F ∧ Same (doW a a1) ds ds' := by
  obtain ⟨⟨F0, F1⟩, p, m, hD⟩ := h
  obtain ⟨p2, s2, e2, h2, -, -, w2⟩ := d_takes0 hD.1 (x := 59) (b := 59) rfl (by decide) (tks_F F0 F1)
  refine ⟨s2, ?_, FS.mk F0 F1 (hD.of h2 w2), rd_do w2⟩
  unfold dgJ
  rw [e2, bnd2_t, L_Rd_readDoing_14]
  by_cases z : 12 < x4 + 1
  · rw [if_pos z]
  · rw [if_neg z, if_pos rfl]
theorem F_numR {F : Nat} {ds : AS} (h : FS κ ds a ta A iw n T F) {x y : Int32} {lo hi : Nat} (hx : x = nI lo) (hy : y = nI hi) (hlo : lo < 2 ^ 31) (hhi : hi < 2 ^ 31) : ∃ v ds', f_Rd_number κ a x y ds = some (v, ds') ∧ FS κ ds' a ta A iw n T F ∧ Same (rdW a) ds ds' := by
  obtain ⟨⟨F0, F1⟩, p, m, hD⟩ := h
  obtain ⟨s3, e3, h3, w3⟩ := d_number hD.1 hx hy hlo hhi
  rw [if_neg (nI_ne0 F0 (by omega))] at h3
  exact ⟨_, s3, e3, FS.mk F0 F1 (hD.of h3 w3), w3⟩
theorem F_takesWR {F : Nat} {ds : AS} (h : FS κ ds a ta A iw n T F) {i : Nat} (hi : i < 11) : ∃ ds', f_Rd_takesWord κ a i ds = some (0, ds') ∧ FS κ ds' a ta A iw n T F ∧ Same (rdW a) ds ds' := by
  obtain ⟨⟨F0, F1⟩, p, m, hD⟩ := h
  obtain ⟨s3, e3, h3, w3⟩ := d_takesW hD.1 hi
  rw [wRs_F F0 F1] at e3 h3
  exact ⟨s3, e3, FS.mk F0 F1 (hD.of h3 w3), w3⟩
theorem FS.dg {F : Nat} {ds ds' : AS} (hca : ta < a ∧ a + 4 < a1) (h : FS κ ds a ta A iw n T F) (hw : Same (dgW a1) ds ds') : FS κ ds' a ta A iw n T F := h.gen hw (fun j z => by unfold dgW at z; omega) (fun j z => by unfold dgW at z; omega)
theorem F_dgS (hca : ta < a ∧ a + 4 < a1) {F : Nat} {ds : AS} (h : FS κ ds a ta A iw n T F) (v1 : Int32) : ∃ ds', (∀ J, dgS κ a a1 v1 J ds = J ds') ∧ FS κ ds' a ta A iw n T F ∧ Same (doW a a1) ds ds' := by
  by_cases z0 : v1 = 0
  · obtain ⟨v7, s1, e1, h1, w1⟩ := F_numR h (x := 1) (y := 99) (lo := 1) (hi := 99) rfl rfl (by decide) (by decide)
    obtain ⟨s2, e2, h2, w2⟩ := F_takesWR h1 (i := 7) (by decide)
    have w3 := d_dgAdd_same (κ := κ) s2 a1 v1 v7 1 0
    refine ⟨_, fun J => ?_, h2.dg hca w3, (rd_do (w1.tr w2)).tr (dg_do w3)⟩
    unfold dgS
    rw [if_pos z0, e1, bnd2_t, e2, bnd2_t, if_pos (show (0 : Int32) = 0 from rfl)]
  · by_cases z1 : v1 = 1
    · obtain ⟨v3, s1, e1, h1, w1⟩ := F_need h (i := 8) (by decide)
      obtain ⟨v5, s2, e2, h2, w2⟩ := F_numR h1 (x := 1) (y := 199) (lo := 1) (hi := 199) rfl rfl (by decide) (by decide)
      have w3 := d_dgAdd_same (κ := κ) s2 a1 v1 v5 1 v3
      refine ⟨_, fun J => ?_, h2.dg hca w3, (rd_do (w1.tr w2)).tr (dg_do w3)⟩
      unfold dgS
      rw [if_neg z0, if_pos z1, e1, bnd2_t, e2, bnd2_t]
    · have w3 := d_dgAdd_same (κ := κ) ds a1 v1 0 1 0
      refine ⟨_, fun J => ?_, h.dg hca w3, dg_do w3⟩
      unfold dgS
      rw [if_neg z0, if_neg z1]
/-- a clause behind its word, both readers -/
theorem E_act (hca : ta < a ∧ a + 4 < a1) (ht : t < 18) {pd j : Nat} {md mr : Int32} {K : List c4} {ds rs rs0 : AS} (hD : DR κ ds a ta A iw n T pd 0 md) (hR : RR_ rs q t n T pd mr []) (h0 : f_R_passWord κ q rs0 = some rs) (hKD : KDd ds a1 K) (hKQ : KQd rs q t K) (hK12 : K.length < 12) (hj : j < 3) :
    (∃ ds' rs' c pd' pr', (∀ J, dgS κ a a1 (nI j) J ds = J ds') ∧ f_R_acted κ q (nI j) rs0 = some (1, rs') ∧ DR κ ds' a ta A iw n T pd' 0 md ∧ RR_ rs' q t n T pr' mr [] ∧ skp T n pd' = skp T n pr' ∧ KDd ds' a1 (K ++ [c]) ∧ KQd rs' q t (K ++ [c]) ∧ doC c ∧ pd ≤ pd' ∧ Same (doW a a1) ds ds' ∧ Same (rtW q t) rs rs') ∨
    (∃ ds' rs' F, (∀ J, dgS κ a a1 (nI j) J ds = J ds') ∧ FS κ ds' a ta A iw n T F ∧ f_R_acted κ q (nI j) rs0 = some (0, rs') ∧ gi rs' q 12 = nI F ∧ Same (doW a a1) ds ds' ∧ Same (rtW q t) rs rs') := by
  obtain ⟨hpn, hn⟩ := hD.m
  have hlo := skp_lo (T := T) hpn
  have hss := skp_skp (T := T) hpn
  obtain ⟨S, hS, q1, v1⟩ := r_act (κ := κ) ht hR.2.1 hKQ hK12 (nI j) h0
  have R1 := hR.ck v1
  have S6 : gi S (q + 6) t = nI (K.length + 1) := by rw [hS, gi_ui, if_pos ⟨rfl, rfl⟩]
  have Sj : ∀ i, gi S (q + 5) i = if i = 60 * t + 5 * K.length + 2 then 1 else if i = 60 * t + 5 * K.length + 1 then 0 else if i = 60 * t + 5 * K.length then nI j else gi rs (q + 5) i := fun i => by
    rw [hS, gi_ui, if_neg (fun z => by omega), gi_ui, gi_ui, gi_ui]
    by_cases e2 : i = 60 * t + 5 * K.length + 2
    · rw [if_pos ⟨rfl, e2⟩, if_pos e2]
    · rw [if_neg (fun z => e2 z.2), if_neg e2]
      by_cases e1 : i = 60 * t + 5 * K.length + 1
      · rw [if_pos ⟨rfl, e1⟩, if_pos e1]
      · rw [if_neg (fun z => e1 z.2), if_neg e1]
        by_cases e0 : i = 60 * t + 5 * K.length
        · rw [if_pos ⟨rfl, e0⟩, if_pos e0]
        · rw [if_neg (fun z => e0 z.2), if_neg e0]
  have keep : ∀ (r r' : AS), Same (rqW q) r r' → (∀ i, gi r' (q + 5) i = gi r (q + 5) i) ∧ gi r' (q + 6) t = gi r (q + 6) t := fun r r' hw => ⟨fun i => (hw _ _ (fun z => by unfold rqW at z; omega)).1, (hw _ _ (fun z => by unfold rqW at z; omega)).1⟩
  have KDgen : ∀ (s : AS), Same (rdW a) ds s → KDd s a1 K := fun s w => hKD.of w (fun i d _ z => by unfold rdW at z; omega)
  have DRg : ∀ (s s' : AS) (p : Nat) (f : Int32), DR κ s a ta A iw n T p f md → Same (dgW a1) s s' → DR κ s' a ta A iw n T p f md := fun s s' p f h w => h.gen w (fun i z => by unfold dgW at z; omega) (fun i z => by unfold dgW at z; omega)
  rw [q1]
  have hc : j = 0 ∨ j = 1 ∨ j = 2 := by omega
  rcases hc with rfl | rfl | rfl
  · -- press
    rw [if_neg (show ¬ nI 0 = 2 by decide), if_pos (show nI 0 = 0 from rfl)]
    unfold act0
    obtain ⟨s2, e2, h2, w2⟩ := d_number hD.1 (x := 1) (y := 99) (lo := 1) (hi := 99) rfl rfl (by decide) (by decide)
    rw [if_pos rfl] at h2
    have D2 := hD.of h2 w2
    obtain ⟨p3, v3, r3, g3, k3, k3v, u3⟩ := r_number (κ := κ) R1.1 (x := 1) (y := 99) (lo := 1) (hi := 99) rfl rfl (by decide) (by decide)
    have hnl := nfl_lt (T := T) (n := n) (p := pd) (lo := 1) (hi := 99) hn hpn
    rw [g3, bnd2_t]
    by_cases hf : nfl T n pd 1 99 = 0
    · rw [if_pos hf, if_neg (show ¬ (1 : Int32) = 0 by decide)]
      rw [hf] at k3 D2
      rw [show nI 0 = (0 : Int32) from rfl] at D2
      have R3 := R1.of k3 u3
      obtain ⟨y1, y2, y3⟩ := k3v hf
      have hv := nfl_0 hf
      rw [← y3] at hv
      have hp3 : pd ≤ p3 := by
        rw [y1]
        have := den_lo (T := T) hlo.2
        omega
      rw [← y1] at D2
      rw [y2]
      have w4 : Same (ckW q t) r3 (ui r3 (q + 5) (60 * t + 5 * K.length + 1) (nI v3)) := (Same.rf _ r3).ui (Or.inl ⟨rfl, by omega, by omega⟩)
      have R4 := R3.ck w4
      have f4 : ∀ i, gi (ui r3 (q + 5) (60 * t + 5 * K.length + 1) (nI v3)) (q + 5) i = if i = 60 * t + 5 * K.length + 1 then nI v3 else gi S (q + 5) i := fun i => by
        rw [gi_ui]
        by_cases e : i = 60 * t + 5 * K.length + 1
        · rw [if_pos ⟨rfl, e⟩, if_pos e]
        · rw [if_neg (fun z => e z.2), if_neg e, (keep _ _ u3).1]
      have f46 : gi (ui r3 (q + 5) (60 * t + 5 * K.length + 1) (nI v3)) (q + 6) t = nI (K.length + 1) := by rw [gi_ui, if_neg (fun z => by omega), (keep _ _ u3).2]; exact S6
      generalize ui r3 (q + 5) (60 * t + 5 * K.length + 1) (nI v3) = r4 at *
      obtain ⟨s5, e5, h5, w5⟩ := d_takesW D2.1 (i := 7) (by decide)
      rw [wRs_1 (cs := [116, 105, 109, 101, 115]) rfl] at e5 h5
      have hlo3 := skp_lo (T := T) (show p3 ≤ n from D2.1.2.2.1)
      have hwl3 := wen_lo (T := T) hlo3.2
      have wR4 : Same (rtW q t) rs r4 := ((ck_rt v1).tr (pb_rt (rq_pb u3))).tr (ck_rt w4)
      unfold f_R_takesWord
      by_cases kT : wnx T n p3 [116, 105, 109, 101, 115] = true
      · rw [if_pos kT] at e5 h5
        simp only [] at e5 h5
        have D5 := D2.of h5 w5
        obtain ⟨r5, g5, R5, u5⟩ := iw1 (κ := κ) R4 (b := skp T n p3) rfl (cs := [116, 105, 109, 101, 115]) (y := 499984983411) rfl rfl kT
        rw [g5, bnd2_t, if_neg (show ¬ (1 : Int32) = 0 by decide)]
        obtain ⟨r6, g6, k6, u6⟩ := r_pass (κ := κ) R5.1
        have R6 := R5.of k6 u6
        rw [g6, bnd_t, bnd2_t, if_neg (show ¬ (1 : Int32) = 0 by decide)]
        obtain ⟨s7, e7, h7, w7⟩ := d_number D5.1 (x := 1) (y := 60) (lo := 1) (hi := 60) rfl rfl (by decide) (by decide)
        rw [if_pos rfl] at h7
        have D7 := D5.of h7 w7
        obtain ⟨p8, v8, r8, g8, k8, k8v, u8⟩ := r_number (κ := κ) R6.1 (x := 1) (y := 60) (lo := 1) (hi := 60) rfl rfl (by decide) (by decide)
        have hnl8 := nfl_lt (T := T) (n := n) (p := wen T n (skp T n p3)) (lo := 1) (hi := 60) hn hwl3.2
        rw [g8, bnd2_t]
        have kk : (∀ i, gi r8 (q + 5) i = gi r4 (q + 5) i) ∧ gi r8 (q + 6) t = gi r4 (q + 6) t := keep _ _ ((u5.tr u6).tr u8)
        have wR8 : Same (rtW q t) rs r8 := wR4.tr (pb_rt (rq_pb ((u5.tr u6).tr u8)))
        have wD7 : Same (rdW a) ds s7 := ((w2.tr w5).tr w7)
        have dev : ∀ J, dgS κ a a1 (nI 0) J ds = J (f_Dg_add κ a1 (nI 0) (nI v3) (nI (nvl5 T (skp T n (wen T n (skp T n p3))) (den T n (skp T n (wen T n (skp T n p3)))))) 0 s7) := by
          intro J
          unfold dgS
          rw [if_pos (show nI 0 = 0 from rfl), e2, bnd2_t, e5, bnd2_t, if_neg (show ¬ (1 : Int32) = 0 by decide), e7, bnd2_t, y3]
        by_cases hf8 : nfl T n (wen T n (skp T n p3)) 1 60 = 0
        · left
          rw [if_pos hf8, if_neg (show ¬ (1 : Int32) = 0 by decide)]
          rw [hf8] at k8 D7
          have R8 := R6.of k8 u8
          obtain ⟨z1, z2, z3⟩ := k8v hf8
          have hv8 := nfl_0 hf8
          rw [← z3] at hv8 dev
          rw [← z1] at D7
          have hp8 : wen T n (skp T n p3) ≤ p8 := by
            rw [z1]
            have a1 := skp_lo (T := T) hwl3.2
            have a2 := den_lo (T := T) a1.2
            omega
          rw [z2]
          have w9 : Same (ckW q t) r8 (ui r8 (q + 5) (60 * t + 5 * K.length + 2) (nI v8)) := (Same.rf _ r8).ui (Or.inl ⟨rfl, by omega, by omega⟩)
          have w10 := d_dgAdd_same (κ := κ) s7 a1 (nI 0) (nI v3) (nI v8) 0
          refine ⟨_, _, (0, v3, v8, 0), p8, p8, dev, rfl, DRg _ _ _ _ D7 w10, R8.ck w9, rfl, d_dgAdd (KDgen _ wD7) hK12 (0, v3, v8, 0) rfl rfl rfl rfl, ?_, Or.inl ⟨rfl, hv, hv8⟩, by omega, (rd_do wD7).tr (dg_do w10), wR8.tr (ck_rt w9)⟩
          have fz : ∀ i, gi (ui r8 (q + 5) (60 * t + 5 * K.length + 2) (nI v8)) (q + 5) i = if i = 60 * t + 5 * K.length + 2 then nI v8 else gi r4 (q + 5) i := fun i => by
            rw [gi_ui]
            by_cases e : i = 60 * t + 5 * K.length + 2
            · rw [if_pos ⟨rfl, e⟩, if_pos e]
            · rw [if_neg (fun z => e z.2), if_neg e, kk.1]
          refine KQd_add hKQ hK12 (0, v3, v8, 0) (by rw [gi_ui, if_neg (fun z => by omega), kk.2]; exact f46) ?_ ?_ ?_ (fun i hi => ?_)
          · rw [fz, if_neg (by omega), f4, if_neg (by omega), Sj, if_neg (by omega), if_neg (by omega), if_pos rfl]
          · rw [fz, if_neg (by omega), f4, if_pos rfl]
          · rw [fz, if_pos rfl]
          · rw [fz, if_neg (by omega), f4, if_neg (by omega), Sj, if_neg (by omega), if_neg (by omega), if_neg (by omega)]
        · right
          rw [if_neg hf8, if_pos (show (0 : Int32) = 0 from rfl)]
          have w10 := d_dgAdd_same (κ := κ) s7 a1 (nI 0) (nI v3) (nI (nvl5 T (skp T n (wen T n (skp T n p3))) (den T n (skp T n (wen T n (skp T n p3)))))) 0
          exact ⟨_, r8, _, dev, (FS.mk (by omega) hnl8 D7).dg hca w10, rfl, k8.2.2.2.1, (rd_do wD7).tr (dg_do w10), wR8⟩
      · left
        rw [if_neg kT] at e5 h5
        simp only [] at e5 h5
        have D5 := D2.of h5 w5
        obtain ⟨r5, g5, R5, u5⟩ := iw0 (κ := κ) R4 (b := skp T n p3) rfl (cs := [116, 105, 109, 101, 115]) (y := 499984983411) rfl rfl kT
        rw [g5, bnd2_t, if_pos (show (0 : Int32) = 0 from rfl), bnd2_t, if_pos (show (0 : Int32) = 0 from rfl)]
        have kk : (∀ i, gi r5 (q + 5) i = gi r4 (q + 5) i) ∧ gi r5 (q + 6) t = gi r4 (q + 6) t := keep _ _ u5
        have w10 := d_dgAdd_same (κ := κ) s5 a1 (nI 0) (nI v3) 1 0
        refine ⟨_, r5, (0, v3, 1, 0), skp T n p3, skp T n p3, fun J => ?_, rfl, DRg _ _ _ _ D5 w10, R5, rfl, d_dgAdd (KDgen _ (w2.tr w5)) hK12 (0, v3, 1, 0) rfl rfl rfl rfl, ?_, Or.inl ⟨rfl, hv, Nat.le_refl 1, show 1 ≤ 60 by decide⟩, by omega, (rd_do (w2.tr w5)).tr (dg_do w10), wR4.tr (pb_rt (rq_pb u5))⟩
        · unfold dgS
          rw [if_pos (show nI 0 = 0 from rfl), e2, bnd2_t, e5, bnd2_t, if_pos (show (0 : Int32) = 0 from rfl), y3]
        · refine KQd_add hKQ hK12 (0, v3, 1, 0) (by rw [kk.2]; exact f46) ?_ ?_ ?_ (fun i hi => ?_)
          · rw [kk.1, f4, if_neg (by omega), Sj, if_neg (by omega), if_neg (by omega), if_pos rfl]
          · rw [kk.1, f4, if_pos rfl]
          · rw [kk.1, f4, if_neg (by omega), Sj, if_pos rfl]; rfl
          · rw [kk.1, f4, if_neg (by omega), Sj, if_neg (by omega), if_neg (by omega), if_neg (by omega)]
    · right
      rw [if_neg hf, if_pos (show (0 : Int32) = 0 from rfl)]
      have FS2 := FS.mk (by omega) hnl D2
      obtain ⟨s5, e5, h5, w5⟩ := F_takesWR FS2 (i := 7) (by decide)
      have w10 := d_dgAdd_same (κ := κ) s5 a1 (nI 0) (nI (nvl5 T (skp T n pd) (den T n (skp T n pd)))) 1 0
      refine ⟨_, r3, _, fun J => ?_, h5.dg hca w10, rfl, k3.2.2.2.1, (rd_do (w2.tr w5)).tr (dg_do w10), (ck_rt v1).tr (pb_rt (rq_pb u3))⟩
      unfold dgS
      rw [if_pos (show nI 0 = 0 from rfl), e2, bnd2_t, e5, bnd2_t, if_pos (show (0 : Int32) = 0 from rfl)]
  · -- fold
    rw [if_neg (show ¬ nI 1 = 2 by decide), if_neg (show ¬ nI 1 = 0 by decide)]
    unfold act1
    obtain ⟨s2, e2, h2, w2⟩ := d_need hD.1 (i := 8) (by decide)
    have hl8 : lw 8 = [[117, 112, 114, 105, 103, 104, 116], [108, 101, 118, 101, 108]] := rfl
    rw [hl8] at e2 h2
    simp only [wAm] at e2 h2
    have hwl := wen_lo (T := T) hlo.2
    -- behind the way
    have way : ∀ (w : Nat) (r9 : AS), w < 2 → f_Rd_neededWord κ a 8 ds = some (nI w, s2) → DR κ s2 a ta A iw n T (wen T n (skp T n pd)) 0 md → RR_ r9 q t n T (skp T n pd) mr [] → Same (rqW q) S r9 → (wqB T (skp T n pd) (wen T n (skp T n pd)) [117, 112, 114, 105, 103, 104, 116] = true ↔ w = 0) →
        (∃ ds' rs' c pd' pr', (∀ J, dgS κ a a1 (nI 1) J ds = J ds') ∧ act1b κ q (60 * t + 5 * K.length) r9 = some (1, rs') ∧ DR κ ds' a ta A iw n T pd' 0 md ∧ RR_ rs' q t n T pr' mr [] ∧ skp T n pd' = skp T n pr' ∧ KDd ds' a1 (K ++ [c]) ∧ KQd rs' q t (K ++ [c]) ∧ doC c ∧ pd ≤ pd' ∧ Same (doW a a1) ds ds' ∧ Same (rtW q t) rs rs') ∨
        (∃ ds' rs' F, (∀ J, dgS κ a a1 (nI 1) J ds = J ds') ∧ FS κ ds' a ta A iw n T F ∧ act1b κ q (60 * t + 5 * K.length) r9 = some (0, rs') ∧ gi rs' q 12 = nI F ∧ Same (doW a a1) ds ds' ∧ Same (rtW q t) rs rs') := by
      intro w r9 hw2 hdw D2 R9 u9 hup
      unfold act1b
      obtain ⟨r10, g10, R10, u10⟩ : ∃ r10, f_R_isWord κ q 33056208972114036 r9 = some ((if w = 0 then 1 else 0), r10) ∧ RR_ r10 q t n T (skp T n pd) mr [] ∧ Same (rqW q) r9 r10 := by
        by_cases z : w = 0
        · rw [if_pos z]
          exact iw1 (κ := κ) R9 hss (cs := [117, 112, 114, 105, 103, 104, 116]) rfl rfl (hup.mpr z)
        · rw [if_neg z]
          exact iw0 (κ := κ) R9 hss (cs := [117, 112, 114, 105, 103, 104, 116]) rfl rfl (fun y => z (hup.mp y))
      have hv15 : (if (if w = 0 then (1 : Int32) else 0) = 0 then (1 : Int32) else 0) = nI w := by
        have : w = 0 ∨ w = 1 := by omega
        rcases this with rfl | rfl <;> rfl
      rw [g10, bnd2_t, hv15]
      have w11 : Same (ckW q t) r10 (ui r10 (q + 5) (60 * t + 5 * K.length + 1) (nI w)) := (Same.rf _ r10).ui (Or.inl ⟨rfl, by omega, by omega⟩)
      have R11 := R10.ck w11
      have f11 : ∀ i, gi (ui r10 (q + 5) (60 * t + 5 * K.length + 1) (nI w)) (q + 5) i = if i = 60 * t + 5 * K.length + 1 then nI w else gi S (q + 5) i := fun i => by
        rw [gi_ui]
        by_cases e : i = 60 * t + 5 * K.length + 1
        · rw [if_pos ⟨rfl, e⟩, if_pos e]
        · rw [if_neg (fun z => e z.2), if_neg e, (keep _ _ (u9.tr u10)).1]
      have f116 : gi (ui r10 (q + 5) (60 * t + 5 * K.length + 1) (nI w)) (q + 6) t = nI (K.length + 1) := by rw [gi_ui, if_neg (fun z => by omega), (keep _ _ (u9.tr u10)).2]; exact S6
      generalize ui r10 (q + 5) (60 * t + 5 * K.length + 1) (nI w) = r11 at *
      obtain ⟨r12, g12, k12, u12⟩ := r_pass (κ := κ) R11.1
      have R12 := R11.of k12 u12
      rw [g12, bnd_t]
      obtain ⟨s7, e7, h7, w7⟩ := d_number D2.1 (x := 1) (y := 199) (lo := 1) (hi := 199) rfl rfl (by decide) (by decide)
      rw [if_pos rfl] at h7
      have D7 := D2.of h7 w7
      obtain ⟨p8, v8, r8, g8, k8, k8v, u8⟩ := r_number (κ := κ) R12.1 (x := 1) (y := 199) (lo := 1) (hi := 199) rfl rfl (by decide) (by decide)
      have hnl8 := nfl_lt (T := T) (n := n) (p := wen T n (skp T n pd)) (lo := 1) (hi := 199) hn hwl.2
      rw [g8, bnd2_t]
      have kk : (∀ i, gi r8 (q + 5) i = gi r11 (q + 5) i) ∧ gi r8 (q + 6) t = gi r11 (q + 6) t := keep _ _ (u12.tr u8)
      have wR8 : Same (rtW q t) rs r8 := (((ck_rt v1).tr (pb_rt (rq_pb (u9.tr u10)))).tr (ck_rt w11)).tr (pb_rt (rq_pb (u12.tr u8)))
      have wD7 : Same (rdW a) ds s7 := w2.tr w7
      have dev : ∀ J, dgS κ a a1 (nI 1) J ds = J (f_Dg_add κ a1 (nI 1) (nI (nvl5 T (skp T n (wen T n (skp T n pd))) (den T n (skp T n (wen T n (skp T n pd)))))) 1 (nI w) s7) := by
        intro J
        unfold dgS
        rw [if_neg (show ¬ nI 1 = 0 by decide), if_pos (show nI 1 = 1 from rfl), hdw, bnd2_t, e7, bnd2_t]
      by_cases hf8 : nfl T n (wen T n (skp T n pd)) 1 199 = 0
      · left
        rw [if_pos hf8, if_neg (show ¬ (1 : Int32) = 0 by decide)]
        rw [hf8] at k8 D7
        have R8 := R12.of k8 u8
        obtain ⟨z1, z2, z3⟩ := k8v hf8
        have hv8 := nfl_0 hf8
        rw [← z3] at hv8 dev
        rw [← z1] at D7
        have hp8 : wen T n (skp T n pd) ≤ p8 := by
          rw [z1]
          have a1 := skp_lo (T := T) hwl.2
          have a2 := den_lo (T := T) a1.2
          omega
        rw [z2]
        have w9 : Same (ckW q t) r8 (ui r8 (q + 5) (60 * t + 5 * K.length + 2) (nI v8)) := (Same.rf _ r8).ui (Or.inl ⟨rfl, by omega, by omega⟩)
        have w10 := d_dgAdd_same (κ := κ) s7 a1 (nI 1) (nI v8) 1 (nI w)
        refine ⟨_, _, (1, w, v8, 0), p8, p8, dev, rfl, DRg _ _ _ _ D7 w10, R8.ck w9, rfl, d_dgAdd (KDgen _ wD7) hK12 (1, w, v8, 0) rfl rfl rfl rfl, ?_, Or.inr (Or.inl ⟨rfl, hw2, hv8⟩), by omega, (rd_do wD7).tr (dg_do w10), wR8.tr (ck_rt w9)⟩
        have fz : ∀ i, gi (ui r8 (q + 5) (60 * t + 5 * K.length + 2) (nI v8)) (q + 5) i = if i = 60 * t + 5 * K.length + 2 then nI v8 else gi r11 (q + 5) i := fun i => by
          rw [gi_ui]
          by_cases e : i = 60 * t + 5 * K.length + 2
          · rw [if_pos ⟨rfl, e⟩, if_pos e]
          · rw [if_neg (fun z => e z.2), if_neg e, kk.1]
        refine KQd_add hKQ hK12 (1, w, v8, 0) (by rw [gi_ui, if_neg (fun z => by omega), kk.2]; exact f116) ?_ ?_ ?_ (fun i hi => ?_)
        · rw [fz, if_neg (by omega), f11, if_neg (by omega), Sj, if_neg (by omega), if_neg (by omega), if_pos rfl]
        · rw [fz, if_neg (by omega), f11, if_pos rfl]
        · rw [fz, if_pos rfl]
        · rw [fz, if_neg (by omega), f11, if_neg (by omega), Sj, if_neg (by omega), if_neg (by omega), if_neg (by omega)]
      · right
        rw [if_neg hf8, if_pos (show (0 : Int32) = 0 from rfl)]
        have w10 := d_dgAdd_same (κ := κ) s7 a1 (nI 1) (nI (nvl5 T (skp T n (wen T n (skp T n pd))) (den T n (skp T n (wen T n (skp T n pd)))))) 1 (nI w)
        exact ⟨_, r8, _, dev, (FS.mk (by omega) hnl8 D7).dg hca w10, rfl, k8.2.2.2.1, (rd_do wD7).tr (dg_do w10), wR8⟩
    by_cases wU : wqB T (skp T n pd) (wen T n (skp T n pd)) [117, 112, 114, 105, 103, 104, 116] = true
    · rw [if_pos wU] at e2 h2
      simp only [] at h2
      obtain ⟨r3, g3, R3, u3⟩ := iw1 (κ := κ) R1 rfl (cs := [117, 112, 114, 105, 103, 104, 116]) (y := 33056208972114036) rfl rfl wU
      rw [g3, bnd2_t, if_neg (show ¬ (1 : Int32) = 0 by decide)]
      exact way 0 r3 (by decide) e2 (hD.of h2 w2) R3 u3 ⟨fun _ => rfl, fun _ => wU⟩
    · rw [if_neg wU] at e2 h2
      obtain ⟨r3, g3, R3, u3⟩ := iw0 (κ := κ) R1 rfl (cs := [117, 112, 114, 105, 103, 104, 116]) (y := 33056208972114036) rfl rfl wU
      rw [g3, bnd2_t, if_pos (show (0 : Int32) = 0 from rfl)]
      by_cases wL : wqB T (skp T n pd) (wen T n (skp T n pd)) [108, 101, 118, 101, 108] = true
      · rw [if_pos wL] at e2 h2
        simp only [] at h2
        obtain ⟨r4, g4, R4, u4⟩ := iw1 (κ := κ) R3 hss (cs := [108, 101, 118, 101, 108]) (y := 465558725996) rfl rfl wL
        rw [g4, bnd2_t, if_neg (show ¬ (1 : Int32) = 0 by decide)]
        exact way 1 r4 (by decide) e2 (hD.of h2 w2) R4 (u3.tr u4) ⟨fun z => absurd z wU, fun z => by cases z⟩
      · right
        rw [if_neg wL] at e2 h2
        simp only [] at h2
        have D2 := hD.of h2 w2
        obtain ⟨r4, g4, R4, u4⟩ := iw0 (κ := κ) R3 hss (cs := [108, 101, 118, 101, 108]) (y := 465558725996) rfl rfl wL
        obtain ⟨r5, g5, k5, u5⟩ := r_fails (κ := κ) R4.1 (x := 0) (y := nI (skp T n pd)) (b := skp T n pd) (k := 0) rfl rfl
        rw [g4, bnd2_t, if_pos (show (0 : Int32) = 0 from rfl), R4.1.2.1, g5, grd_t (Or.inl rfl)]
        have FS2 := FS.mk (by omega) (by omega) D2
        obtain ⟨v6, s6, e6, h6, w6⟩ := F_numR FS2 (x := 1) (y := 199) (lo := 1) (hi := 199) rfl rfl (by decide) (by decide)
        have w10 := d_dgAdd_same (κ := κ) s6 a1 (nI 1) v6 1 (oI none)
        refine ⟨_, r5, _, fun J => ?_, h6.dg hca w10, rfl, k5.2.2.2.1, (rd_do (w2.tr w6)).tr (dg_do w10), (ck_rt v1).tr (pb_rt (rq_pb ((u3.tr u4).tr u5)))⟩
        unfold dgS
        rw [if_neg (show ¬ nI 1 = 0 by decide), if_pos (show nI 1 = 1 from rfl), e2, bnd2_t, e6, bnd2_t]
  · -- turn
    left
    rw [if_pos (show nI 2 = 2 from rfl)]
    have w10 := d_dgAdd_same (κ := κ) ds a1 (nI 2) 0 1 0
    refine ⟨_, S, (2, 0, 1, 0), pd, pd, fun J => ?_, rfl, DRg _ _ _ _ hD w10, R1, rfl, d_dgAdd hKD hK12 (2, 0, 1, 0) rfl rfl rfl rfl, ?_, Or.inr (Or.inr ⟨rfl, rfl, rfl⟩), Nat.le_refl _, dg_do w10, ck_rt v1⟩
    · unfold dgS
      rw [if_neg (show ¬ nI 2 = 0 by decide), if_neg (show ¬ nI 2 = 1 by decide)]
    · refine KQd_add hKQ hK12 (2, 0, 1, 0) S6 ?_ ?_ ?_ (fun i hi => ?_)
      · rw [Sj, if_neg (by omega), if_neg (by omega), if_pos rfl]
      · rw [Sj, if_neg (by omega), if_pos rfl]; rfl
      · rw [Sj, if_pos rfl]; rfl
      · rw [Sj, if_neg (by omega), if_neg (by omega), if_neg (by omega)]
end DoLoop
