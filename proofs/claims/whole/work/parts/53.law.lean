/-! a law read, both readers -/
section ClauseWord
variable {κ : Ko} {st : AS} {a ta n p : Nat} {T : Nat → Nat} {m : Int32}
theorem d_cw (h : RS κ st a ta n T p 0 m) {i x5 : Nat} (hi : i < 11) {x2 : Int32} (hx : x2 = nI x5) (hx5 : x5 ≤ 12) : ∃ st', f_Rd_clauseWord κ a i x2 st = some (oI (wAm T (skp T n p) (wen T n (skp T n p)) (lw i) 0), st') ∧
    RS κ st' a ta n T (match wAm T (skp T n p) (wen T n (skp T n p)) (lw i) 0 with | some _ => wen T n (skp T n p) | none => skp T n p) (match wAm T (skp T n p) (wen T n (skp T n p)) (lw i) 0 with | some _ => (if x5 = 12 then nI (1 + 8 * skp T n p + 4) else 0) | none => nI (1 + 8 * skp T n p + 0)) m ∧ Same (rdW a) st st' := by
  have hp := h.2.2.1
  have hn := h.1.2.2.1
  have hss := skp_skp (T := T) hp
  have hlo := skp_lo (T := T) hp
  unfold f_Rd_clauseWord f_Rd_neededWord
  obtain ⟨s1, e1, h1, w1⟩ := d_next h
  obtain ⟨s2, e2, h2, w2⟩ := d_word h1 hi
  rw [show wRs T n (skp T n p) 0 i = wAm T (skp T n p) (wen T n (skp T n p)) (lw i) 0 by unfold wRs; rw [if_pos rfl, hss]] at e2 h2
  rw [hss] at h2
  rw [e1, bnd2_t, e2, bnd2_t]
  have hlt : ∀ j, wAm T (skp T n p) (wen T n (skp T n p)) (lw i) 0 = some j → j < 1000 := fun j hj => by
    have := wAm_e _ _ _ hj (lw_gd i hi).1
    have := (lw_gd i hi).2.2
    omega
  simp only [jn_e]
  have c12 := (nI_ltk (m := x5) (k := 12) (y := 12) rfl (by omega) (by decide)).2.2.2.2
  rw [hx]
  simp only [c12]
  generalize wAm T (skp T n p) (wen T n (skp T n p)) (lw i) 0 = o at *
  cases o with
  | none =>
    simp only [] at h2 ⊢
    rw [if_pos (show oI none = -1 from rfl), bnd2_t, h2.2.1]
    obtain ⟨s3, e3, h3, w3⟩ := d_fail h2 (x := nI (skp T n p)) (y := 0) (b := skp T n p) (k := 0) rfl rfl
    rw [ffl_0] at h3
    rw [e3]
    by_cases k : x5 = 12
    · rw [if_pos k]
      obtain ⟨s4, e4, h4, w4⟩ := d_fail h3 (x := nI (skp T n p)) (y := 4) (b := skp T n p) (k := 4) rfl rfl
      rw [ffl_n (by omega) (by omega)] at h4
      rw [e4]
      exact ⟨s4, rfl, h4, ((w1.tr w2).tr w3).tr w4⟩
    · rw [if_neg k]
      exact ⟨s3, rfl, h3, (w1.tr w2).tr w3⟩
  | some j =>
    have hj := hlt j rfl
    simp only [] at h2 ⊢
    rw [if_neg (show ¬ oI (some j) = -1 from fun z => by have := (oI_n (o := some j) (fun x hx => by have := Option.some.inj hx; omega)).mp z; cases this), bnd2_t]
    by_cases k : x5 = 12
    · rw [if_pos k, if_pos k]
      obtain ⟨s4, e4, h4, w4⟩ := d_fail h2 (x := nI (skp T n p)) (y := 4) (b := skp T n p) (k := 4) rfl rfl
      rw [ffl_0] at h4
      rw [e4]
      exact ⟨s4, rfl, h4, (w1.tr w2).tr w4⟩
    · rw [if_neg k, if_neg k]
      exact ⟨s2, rfl, h2, w1.tr w2⟩
end ClauseWord
/-- all that reading a law touches -/
def lawX (a a1 p j : Nat) : Prop := lawW a a1 p j ∨ p = a1 ∧ j = 6
def rtX (q t p j : Nat) : Prop := rtW q t p j ∨ p = q + 7 ∧ j = t ∨ p = q ∧ j = 17
theorem law_X {a a1 : Nat} {s1 s2 : AS} (h : Same (lawW a a1) s1 s2) : Same (lawX a a1) s1 s2 := h.mono (fun _ _ z => Or.inl z)
theorem pd_X {a a1 : Nat} {s1 s2 : AS} (h : Same (pdW a (a1 + 1)) s1 s2) : Same (lawX a a1) s1 s2 := law_X (pd_law h)
theorem rt_X {q t : Nat} {s1 s2 : AS} (h : Same (rtW q t) s1 s2) : Same (rtX q t) s1 s2 := h.mono (fun _ _ z => Or.inl z)
theorem ph_X {q t : Nat} {s1 s2 : AS} (h : Same (phW q t) s1 s2) : Same (rtX q t) s1 s2 := h.mono (fun _ _ z => z.elim (fun y => Or.inl (Or.inl y)) (fun y => Or.inr (Or.inr y)))
theorem pb_X {q t : Nat} {s1 s2 : AS} (h : Same (pbW q t) s1 s2) : Same (rtX q t) s1 s2 := rt_X (pb_rt h)
def b2i (b : Bool) : Int32 := if b then 1 else 0
/-- how soft: the class's number, the reference's -/
def SoR (ds rs : AS) (a1 q t : Nat) (told : Bool) (sv : Nat) : Prop := (told = false → gi ds a1 6 = 99 ∧ gi rs (q + 7) t = -1) ∧ (told = true → gi ds a1 6 = nI sv ∧ gi rs (q + 7) t = nI sv ∧ 1 ≤ sv ∧ sv ≤ 99)
theorem SoR.of {ds ds' rs rs' : AS} {a1 q t : Nat} {told : Bool} {sv : Nat} {W1 W2 : Nat → Nat → Prop} (h : SoR ds rs a1 q t told sv) (h1 : Same W1 ds ds') (h2 : Same W2 rs rs') (n1 : ¬ W1 a1 6) (n2 : ¬ W2 (q + 7) t) : SoR ds' rs' a1 q t told sv := by
  unfold SoR
  rw [(h1 _ _ n1).1, (h2 _ _ n2).1]
  exact h
section LawLoop
variable {κ : Ko} {a ta a1 t n q : Nat} {T : Nat → Nat}
/-- the law so far -/
def LAWS (κ : Ko) (ds rs : AS) (a ta a1 q t n : Nat) (T : Nat → Nat) (pd pr m : Nat) (told : Bool) (sv : Nat) (L : List (Nat × Nat)) (K : List c4) : Prop :=
  PS κ ds rs a ta (a1 + 1) 0 q t n T pd pr L L m ∧ KD ds a1 K ∧ KQ rs q t K ∧ (∀ c, c ∈ K → lawC L c) ∧ L.length ≤ pd ∧ SoR ds rs a1 q t told sv
theorem lwW_n6 {a1 : Nat} : ¬ lwW a1 a1 6 := fun z => by unfold lwW at z; omega
theorem lawW_n6 {a a1 : Nat} (hca : a + 4 < a1) : ¬ lawW a a1 a1 6 := fun z => by unfold lawW pdW rdW cdW lwW at z; omega
theorem rtW_n7 {q t : Nat} : ¬ rtW q t (q + 7) t := fun z => by unfold rtW pbW cqW ckW at z; omega
theorem FS.soft {κ : Ko} {ds : AS} {a ta a1 t iw n F : Nat} {T : Nat → Nat} {v : Int32} (hc : PC κ a ta (a1 + 1) t iw) (h : FS κ ds a ta (a1 + 1) iw n T F) : FS κ (ui ds a1 6 v) a ta (a1 + 1) iw n T F := by
  obtain ⟨hF, p, m, hD⟩ := h
  have h0 := hc.1
  have h1 := hc.2.1
  refine ⟨hF, p, m, ⟨⟨⟨hD.1.1.1, hD.1.1.2.1, hD.1.1.2.2.1, ?_, ?_, hD.1.1.2.2.2.2.2⟩, ?_, hD.1.2.2.1, ?_, ?_⟩, hD.2.1, hD.2.2⟩⟩
  · rw [gi_ui, if_neg (fun z => by omega)]; exact hD.1.1.2.2.2.1
  · intro k hk; rw [gi_ui, if_neg (fun z => by omega)]; exact hD.1.1.2.2.2.2.1 k hk
  · rw [gi_ui, if_neg (fun z => by omega)]; exact hD.1.2.1
  · rw [gi_ui, if_neg (fun z => by omega)]; exact hD.1.2.2.2.1
  · rw [gi_ui, if_neg (fun z => by omega)]; exact hD.1.2.2.2.2
theorem DR.soft {κ : Ko} {ds : AS} {a ta a1 t iw n p : Nat} {T : Nat → Nat} {f m v : Int32} (hc : PC κ a ta (a1 + 1) t iw) (hD : DR κ ds a ta (a1 + 1) iw n T p f m) : DR κ (ui ds a1 6 v) a ta (a1 + 1) iw n T p f m := by
  have h0 := hc.1
  have h1 := hc.2.1
  refine ⟨⟨⟨hD.1.1.1, hD.1.1.2.1, hD.1.1.2.2.1, ?_, ?_, hD.1.1.2.2.2.2.2⟩, ?_, hD.1.2.2.1, ?_, ?_⟩, hD.2.1, hD.2.2⟩
  · rw [gi_ui, if_neg (fun z => by omega)]; exact hD.1.1.2.2.2.1
  · intro k hk; rw [gi_ui, if_neg (fun z => by omega)]; exact hD.1.1.2.2.2.2.1 k hk
  · rw [gi_ui, if_neg (fun z => by omega)]; exact hD.1.2.1
  · rw [gi_ui, if_neg (fun z => by omega)]; exact hD.1.2.2.2.1
  · rw [gi_ui, if_neg (fun z => by omega)]; exact hD.1.2.2.2.2
/-- after a fault the law's loop ends -/
theorem F_lwJ (hc : PC κ a ta (a1 + 1) t 0) (kd : Nat → AS → Option (Int32 × AS)) {F : Nat} {ds : AS} (h : FS κ ds a ta (a1 + 1) 0 n T F) (d : Nat) (v26 x5 : Int32) : ∃ ds', lwJ κ kd (d + 1) a a1 v26 x5 ds = kd a ds' ∧ FS κ ds' a ta (a1 + 1) 0 n T F ∧ Same (lawX a a1) ds ds' := by
  obtain ⟨s1, e1, h1, w1⟩ := F_takes h (x := 59) (b := 59) rfl (by decide)
  refine ⟨s1, ?_, h1, pd_X w1⟩
  unfold lwJ
  rw [e1, bnd2_t, L_Rd_readLaw_31]
  by_cases z : 12 < x5 + 1
  · rw [if_pos z]
  · rw [if_neg z, if_pos rfl]
theorem F_lwF (hc : PC κ a ta (a1 + 1) t 0) {F : Nat} {ds : AS} (h : FS κ ds a ta (a1 + 1) 0 n T F) (J : AS → Option (Int32 × AS)) : ∃ ds', lwF κ a a1 J ds = J ds' ∧ FS κ ds' a ta (a1 + 1) 0 n T F ∧ Same (lawX a a1) ds ds' := by
  obtain ⟨v, s1, e1, h1, w1⟩ := F_number h (x := 1) (y := 99) (lo := 1) (hi := 99) rfl rfl (by decide) (by decide)
  unfold lwF
  rw [e1, bnd2_t]
  unfold f_Lw_softFrom
  exact ⟨_, rfl, h1.soft hc, (pd_X w1).ui (Or.inr ⟨rfl, rfl⟩)⟩
theorem E_lawL (hc : PC κ a ta (a1 + 1) t 0) (ht6 : t < 6) (hca : a + 4 < a1) (kd : Nat → AS → Option (Int32 × AS)) (kq : Int32 → AS → Option (Int32 × AS)) : ∀ (r pd pr m dd dq x5 : Nat) (told : Bool) (sv : Nat) (L : List (Nat × Nat)) (K : List c4) (ds rs : AS), r = n - pd → LAWS κ ds rs a ta a1 q t n T pd pr m told sv L K → gi rs q 17 = nI x5 → K.length ≤ x5 → x5 ≤ 12 → 100 ≤ dd + x5 → 1000 ≤ dq + pd →
    (∃ ds' rs' pd' pr' m' told' sv' L' K', L_Rd_readLaw_31 κ kd dd a a1 (b2i told) 1 (nI x5) ds = kd a ds' ∧ bnd2 (f_R_clauseHere κ q rs) (fun v s => L_R_clausesHere_5 κ kq dq q v s) = kq 1 rs' ∧ LAWS κ ds' rs' a ta a1 q t n T pd' pr' m' told' sv' L' K' ∧ Same (lawX a a1) ds ds' ∧ Same (rtX q t) rs rs') ∨
    (∃ ds' rs' F, L_Rd_readLaw_31 κ kd dd a a1 (b2i told) 1 (nI x5) ds = kd a ds' ∧ FS κ ds' a ta (a1 + 1) 0 n T F ∧ bnd2 (f_R_clauseHere κ q rs) (fun v s => L_R_clausesHere_5 κ kq dq q v s) = kq 0 rs' ∧ gi rs' q 12 = nI F ∧ Same (lawX a a1) ds ds' ∧ Same (rtX q t) rs rs') := by
  intro r
  induction r using Nat.strongRecOn with
  | ind r ih =>
    intro pd pr m dd dq x5 told sv L K ds rs hr h h17 hKx hx5 hdd hdq
    obtain ⟨hP, hKD, hKQ, hcl, hl, hso⟩ := h
    have hP' := hP
    obtain ⟨⟨hD, hC⟩, hR, hsk, hm, hv, hvc⟩ := hP'
    obtain ⟨hpn, hn⟩ := hD.m
    have hlo := skp_lo (T := T) hpn
    have hss := skp_skp (T := T) hpn
    have hwl := wen_lo (T := T) hlo.2
    obtain ⟨dd, rfl⟩ : ∃ e, dd = e + 2 := ⟨dd - 2, by omega⟩
    obtain ⟨dq, rfl⟩ : ∃ e, dq = e + 1 := ⟨dq - 1, by omega⟩
    have hk6 : t / 6 = 0 := by omega
    have hR0 := r_here (κ := κ) hR rfl hk6 (by omega) h17 hx5 (by decide)
    rw [if_pos rfl] at hR0
    rw [readLaw_e, if_neg (show ¬ 12 < nI x5 from nI_nlt (a := 12) hx5 (by decide)), if_neg (show ¬ (1 : Int32) = 0 by decide)]
    obtain ⟨s1, e1, h1, w1⟩ := d_next hD.1
    have D1 := hD.of h1 w1
    obtain ⟨s2, e2, h2, w2⟩ := d_cw D1.1 (i := 1) (x5 := x5) (by decide) rfl hx5
    rw [hss] at e2 h2
    rw [hsk] at *
    rw [e1, bnd2_t, e2, bnd2_t]
    have wD2 : Same (pdW a (a1 + 1)) ds s2 := rd_pd (w1.tr w2)
    have hwl1 : ∀ j, wAm T (skp T n pr) (wen T n (skp T n pr)) (lw 1) 0 = some j → skp T n pr < wen T n (skp T n pr) ∧ j < 3 := fun j hj => by
      have := wAm_e _ _ _ hj (lw_gd 1 (by decide)).1
      have e : (lw 1).length = 3 := rfl
      omega
    -- the end after a fault
    have badEnd : ∀ (s3 : AS) (rs3 : AS) (F : Nat) (v4 : Int32), FS κ s3 a ta (a1 + 1) 0 n T F → Same (lawX a a1) ds s3 → f_R_clauseHere κ q rs = some (0, rs3) → gi rs3 q 12 = nI F → Same (rtX q t) rs rs3 →
        ∃ ds' rs' F', (if v4 = 2 then (if b2i told = 0 then lwF κ a a1 (lwJ κ kd (dd + 1) a a1 1 (nI x5)) s3 else lwF κ a a1 (lwJ κ kd (dd + 1) a a1 1 (nI x5)) (f_Rd_fail κ a (nI (skp T n pr)) (4 : Int32) s3)) else lwS κ a a1 v4 (lwJ κ kd (dd + 1) a a1 (b2i told) (nI x5)) s3) = kd a ds' ∧ FS κ ds' a ta (a1 + 1) 0 n T F' ∧ bnd2 (f_R_clauseHere κ q rs) (fun v s => L_R_clausesHere_5 κ kq (dq + 1) q v s) = kq 0 rs' ∧ gi rs' q 12 = nI F' ∧ Same (lawX a a1) ds ds' ∧ Same (rtX q t) rs rs' := by
      intro s3 rs3 F v4 hF hw hcr hwr hwq
      have hq : bnd2 (f_R_clauseHere κ q rs) (fun v s => L_R_clausesHere_5 κ kq (dq + 1) q v s) = kq 0 rs3 := by rw [hcr, bnd2_t, L_R_clausesHere_5, if_pos rfl]
      by_cases z2 : v4 = 2
      · rw [if_pos z2]
        by_cases z3 : b2i told = 0
        · rw [if_pos z3]
          obtain ⟨s4, e4, h4, w4⟩ := F_lwF hc hF (lwJ κ kd (dd + 1) a a1 1 (nI x5))
          obtain ⟨s5, e5, h5, w5⟩ := F_lwJ hc kd h4 dd 1 (nI x5)
          exact ⟨s5, rs3, F, by rw [e4, e5], h5, hq, hwr, (hw.tr w4).tr w5, hwq⟩
        · rw [if_neg z3]
          obtain ⟨s3', e3', h3', w3'⟩ := F_fail hF (x := nI (skp T n pr)) (y := 4) (b := skp T n pr) (k := 4) rfl rfl
          rw [e3']
          obtain ⟨s4, e4, h4, w4⟩ := F_lwF hc h3' (lwJ κ kd (dd + 1) a a1 1 (nI x5))
          obtain ⟨s5, e5, h5, w5⟩ := F_lwJ hc kd h4 dd 1 (nI x5)
          exact ⟨s5, rs3, F, by rw [e4, e5], h5, hq, hwr, ((hw.tr (pd_X w3')).tr w4).tr w5, hwq⟩
      · rw [if_neg z2]
        obtain ⟨s4, e4, h4, w4⟩ := F_lwS hc hF v4
        obtain ⟨s5, e5, h5, w5⟩ := F_lwJ hc kd h4 dd (b2i told) (nI x5)
        exact ⟨s5, rs3, F, by rw [e4, e5], h5, hq, hwr, (hw.tr (law_X w4)).tr w5, hwq⟩
    -- behind a good clause
    have goodEnd : ∀ (s3 rs3 : AS) (pd3 pr3 m3 : Nat) (told3 : Bool) (sv3 : Nat) (L3 : List (Nat × Nat)) (K3 : List c4), LAWS κ s3 rs3 a ta a1 q t n T pd3 pr3 m3 told3 sv3 L3 K3 → gi rs3 q 17 = nI (x5 + 1) → K3.length ≤ x5 + 1 → x5 < 12 → pd < pd3 → Same (lawX a a1) ds s3 → Same (rtX q t) rs rs3 → f_R_clauseHere κ q rs = some (1, rs3) → ∀ (X : Option (Int32 × AS)), X = lwJ κ kd (dd + 1) a a1 (b2i told3) (nI x5) s3 →
        (∃ ds' rs' pd' pr' m' told' sv' L' K', X = kd a ds' ∧ bnd2 (f_R_clauseHere κ q rs) (fun v s => L_R_clausesHere_5 κ kq (dq + 1) q v s) = kq 1 rs' ∧ LAWS κ ds' rs' a ta a1 q t n T pd' pr' m' told' sv' L' K' ∧ Same (lawX a a1) ds ds' ∧ Same (rtX q t) rs rs') ∨
        (∃ ds' rs' F, X = kd a ds' ∧ FS κ ds' a ta (a1 + 1) 0 n T F ∧ bnd2 (f_R_clauseHere κ q rs) (fun v s => L_R_clausesHere_5 κ kq (dq + 1) q v s) = kq 0 rs' ∧ gi rs' q 12 = nI F ∧ Same (lawX a a1) ds ds' ∧ Same (rtX q t) rs rs') := by
      intro s3 rs3 pd3 pr3 m3 told3 sv3 L3 K3 h3 h173 hK3 hx12 hpd3 hw hwq hcr X hX
      obtain ⟨hP3, hKD3, hKQ3, hcl3, hl3, hso3⟩ := h3
      have hP3' := hP3
      obtain ⟨⟨D3, C3⟩, Q3, sk3, mm3, v3, vc3⟩ := hP3'
      obtain ⟨hpn3, -⟩ := D3.m
      have hlo3 := skp_lo (T := T) hpn3
      have hss3 := skp_skp (T := T) hpn3
      rw [hX, hcr, bnd2_t, L_R_clausesHere_5, if_neg (show ¬ (1 : Int32) = 0 by decide)]
      unfold lwJ
      have tk3 : ∀ b, tks T n pd3 0 b = true ↔ (skp T n pd3 < n ∧ T (skp T n pd3) = b) := fun b => by unfold tks; rw [decide_eq_true_eq]; exact ⟨fun z => z.2, fun z => ⟨rfl, z⟩⟩
      have hT3 : skp T n pd3 < n → T (skp T n pd3) < 256 := fun z => (D3.1.1.2.2.2.2.1 _ z).2
      have hnx3 : nxt T n pr3 = if skp T n pd3 < n then nI (T (skp T n pd3)) else -1 := by unfold nxt; rw [sk3]
      obtain ⟨r4, g4, k4, v4⟩ := r_see (κ := κ) Q3.1
      have Q4 := Q3.of k4 v4
      rw [← sk3] at Q4
      rw [g4, bnd2_t]
      by_cases k59 : tks T n pd3 0 59 = true
      · obtain ⟨z1, z2⟩ := (tk3 _).mp k59
        obtain ⟨s4, e4, h4, w4⟩ := d_takes1 D3.1 (x := 59) (b := 59) rfl (by decide) k59
        have D4 := D3.of h4 w4
        have C4 := C3.rd hc w4
        rw [e4, bnd2_t, if_pos (show nxt T n pr3 = 59 by rw [hnx3, if_pos z1, z2]; rfl), Q4.1.2.1, nI_1, nI_1]
        have w5 : Same (rqW q) r4 (ui r4 q 11 (nI (skp T n pd3 + 1))) := rq_11 (Same.rf _ _)
        have Q5 := Q4.of (Q4.1.at (p' := skp T n pd3 + 1) (by omega)) w5
        have hL5 : LAWS κ s4 (ui r4 q 11 (nI (skp T n pd3 + 1))) a ta a1 q t n T (skp T n pd3 + 1) (skp T n pd3 + 1) m3 told3 sv3 L3 K3 := ⟨⟨⟨D4, C4⟩, Q5, rfl, mm3, v3, vc3⟩, hKD3.pd (a := a) hca (rd_pd w4), hKQ3.pb (rq_pb (v4.tr w5)), hcl3, by omega, hso3.of (rd_pd (A := a1 + 1) w4) (rq_pb (t := t) (v4.tr w5)) (fun z => lawW_n6 hca (Or.inl z)) (fun z => rtW_n7 (Or.inl z))⟩
        have h175 : gi (ui r4 q 11 (nI (skp T n pd3 + 1))) q 17 = nI (x5 + 1) := by rw [((v4.tr w5) q 17 (fun z => by unfold rqW at z; omega)).1]; exact h173
        rcases ih (n - (skp T n pd3 + 1)) (by omega) (skp T n pd3 + 1) (skp T n pd3 + 1) m3 (dd + 1) dq (x5 + 1) told3 sv3 L3 K3 s4 _ rfl hL5 h175 hK3 (by omega) (by omega) (by omega) with ⟨ds', rs', pd', pr', m', told', sv', L', K', b1, b2, b3, b4, b5⟩ | ⟨ds', rs', F, b1, b2, b3, b4, b5, b6⟩
        · left
          exact ⟨ds', rs', pd', pr', m', told', sv', L', K', b1, b2, b3, (hw.tr (pd_X (rd_pd w4))).tr b4, (hwq.tr (pb_X (rq_pb (v4.tr w5)))).tr b5⟩
        · right
          exact ⟨ds', rs', F, b1, b2, b3, b4, (hw.tr (pd_X (rd_pd w4))).tr b5, (hwq.tr (pb_X (rq_pb (v4.tr w5)))).tr b6⟩
      · left
        obtain ⟨p4, s4, e4, h4, -, q4, w4⟩ := d_takes0 D3.1 (x := 59) (b := 59) rfl (by decide) (Bool.eq_false_iff.mpr k59)
        rw [q4 rfl] at h4
        have D4 := D3.of h4 w4
        have C4 := C3.rd hc w4
        rw [e4, bnd2_t, L_Rd_readLaw_31, if_pos (show (0 : Int32) = 0 from rfl), ite_self, if_neg (show ¬ nxt T n pr3 = 59 from fun z => k59 (by
          rw [tk3]
          rw [hnx3] at z
          by_cases zz : skp T n pd3 < n
          · have := hT3 zz
            rw [if_pos zz] at z
            exact ⟨zz, (nI_eq (b := 59) (by omega) (by decide)).mp z⟩
          · rw [if_neg zz] at z
            exact absurd z (by decide)))]
        exact ⟨s4, r4, skp T n pd3, skp T n pd3, m3, told3, sv3, L3, K3, rfl, rfl, ⟨⟨⟨D4, C4⟩, Q4, rfl, mm3, v3, vc3⟩, hKD3.pd (a := a) hca (rd_pd w4), hKQ3.pb (rq_pb v4), hcl3, by omega, hso3.of (rd_pd (A := a1 + 1) w4) (rq_pb (t := t) v4) (fun z => lawW_n6 hca (Or.inl z)) (fun z => rtW_n7 (Or.inl z))⟩, hw.tr (pd_X (rd_pd w4)), hwq.tr (pb_X (rq_pb v4))⟩
    cases hO : wAm T (skp T n pr) (wen T n (skp T n pr)) (lw 1) 0 with
    | none =>
      right
      rw [hO] at hR0 h2
      obtain ⟨rs3, a1', a2', a3'⟩ := hR0
      have D2 := D1.of h2 w2
      exact badEnd s2 rs3 (1 + 8 * skp T n pr + 0) (oI none) (FS.mk (by omega) (by omega) D2) (pd_X wD2) a1' a2' (ph_X a3')
    | some j =>
      rw [hO] at hR0 h2
      simp only [] at hR0 h2
      obtain ⟨hj1, hj3⟩ := hwl1 j hO
      have D2 := D1.of h2 w2
      by_cases k12 : x5 = 12
      · right
        obtain ⟨rs3, a1', a2', a3'⟩ := hR0.1 k12
        rw [if_pos k12] at D2
        exact badEnd s2 rs3 (1 + 8 * skp T n pr + 4) (oI (some j)) (FS.mk (by omega) (by omega) D2) (pd_X wD2) a1' a2' (ph_X a3')
      · obtain ⟨rs3, a1', a2', a3', a4'⟩ := hR0.2 (by omega)
        rw [if_neg k12] at D2
        have C2 : CDL s2 (a1 + 1) L := (hC.rd hc w1).rd hc w2
        have KQ3 := hKQ.ph a4'
        have KD2 := hKD.pd (a := a) hca wD2
        have hso3 : SoR s2 rs3 a1 q t told sv := hso.of wD2 a4' (fun z => lawW_n6 hca (Or.inl z)) (fun z => z.elim (fun y => rtW_n7 (Or.inl y)) (fun y => by omega))
        have hj : j = 2 ∨ j < 2 := by omega
        rcases hj with rfl | hj
        · -- soft
          rw [if_pos (show oI (some 2) = 2 from rfl)]
          have hcr : f_R_clauseHere κ q rs = bnd2 (f_R_softened κ q (nI (skp T n pr)) rs3) gGr := by rw [a1']; unfold actK; rw [if_pos rfl, if_pos rfl]
          have hsoft : f_R_softened κ q (nI (skp T n pr)) rs3 = if gi rs3 (q + 7) t < 0 then bnd (f_R_passWord κ q rs3) (fun s2 => bnd2 (f_R_numberHere κ q (1 : Int32) (99 : Int32) s2) (fun v3 s4 => if v3 = 0 then some ((0 : Int32), s4) else grd (vp_in (gi s4 q 14) 6) (some ((1 : Int32), ui s4 (q + 7) (gi s4 q 14 : Int32).toNatClampNeg (gi s4 q 13))))) else some (0, (f_R_fails κ q 4 (nI (skp T n pr)) rs3).2) := by
            unfold f_R_softened
            obtain ⟨r4, g4, -, -⟩ := r_fails (κ := κ) a2'.1 (x := 4) (y := nI (skp T n pr)) (b := skp T n pr) (k := 4) rfl rfl
            rw [a2'.2.1, grd_t (vp_in_nI ht6 (by decide)), nI_clamp (by omega), g4, grd_t (Or.inl rfl)]
          cases told with
          | true =>
            right
            obtain ⟨z1, z2, z3, z4⟩ := hso3.2 rfl
            obtain ⟨r4, g4, k4, v4⟩ := r_fails (κ := κ) a2'.1 (x := 4) (y := nI (skp T n pr)) (b := skp T n pr) (k := 4) rfl rfl
            rw [hsoft, z2, if_neg (nI_pos (by omega)), g4, bnd2_t] at hcr
            unfold gGr at hcr
            rw [grd_t (Or.inl rfl)] at hcr
            have := badEnd
            obtain ⟨s3, e3, h3, w3⟩ := d_fail D2.1 (x := nI (skp T n pr)) (y := 4) (b := skp T n pr) (k := 4) rfl rfl
            rw [ffl_0] at h3
            have D3 := D2.of h3 w3
            rw [if_neg (show ¬ b2i true = 0 by decide), e3]
            have hb := badEnd s3 r4 (1 + 8 * skp T n pr + 4) 2 (FS.mk (by omega) (by omega) D3) ((pd_X wD2).tr (pd_X (rd_pd w3))) hcr k4.2.2.2.1 ((ph_X a4').tr (pb_X (rq_pb v4)))
            rw [if_pos (show (2 : Int32) = 2 from rfl), if_neg (show ¬ b2i true = 0 by decide)] at hb
            obtain ⟨s3', e3', h3', w3'⟩ := d_fail D3.1 (x := nI (skp T n pr)) (y := 4) (b := skp T n pr) (k := 4) rfl rfl
            have hid : f_Rd_fail κ a (nI (skp T n pr)) 4 s3 = s3 := by
              unfold f_Rd_fail
              rw [D3.1.2.2.2.1, if_neg (nI_ne0 (by omega) (by omega))]
            rw [hid] at hb
            exact hb
          | false =>
            obtain ⟨z1, z2⟩ := hso3.1 rfl
            rw [if_pos (show b2i false = 0 from rfl)]
            obtain ⟨r4, g4, k4, v4⟩ := r_pass (κ := κ) a2'.1
            have Q4 := a2'.of k4 v4
            obtain ⟨p5, v5', r5, g5, k5, k5v, v5⟩ := r_number (κ := κ) Q4.1 (x := 1) (y := 99) (lo := 1) (hi := 99) rfl rfl (by decide) (by decide)
            rw [hsoft, z2, if_pos (show (-1 : Int32) < 0 by decide), g4, bnd_t, g5, bnd2_t] at hcr
            obtain ⟨s3, e3, h3, w3⟩ := d_number D2.1 (x := 1) (y := 99) (lo := 1) (hi := 99) rfl rfl (by decide) (by decide)
            rw [if_pos rfl] at h3
            have D3 := D2.of h3 w3
            have C3 := C2.rd hc w3
            have hnl := nfl_lt (T := T) (n := n) (p := wen T n (skp T n pr)) (lo := 1) (hi := 99) hn hwl.2
            have hdev : lwF κ a a1 (lwJ κ kd (dd + 1) a a1 1 (nI x5)) s2 = lwJ κ kd (dd + 1) a a1 1 (nI x5) (ui s3 a1 6 (nI (nvl5 T (skp T n (wen T n (skp T n pr))) (den T n (skp T n (wen T n (skp T n pr))))))) := by
              unfold lwF f_Lw_softFrom
              rw [e3, bnd2_t]
            by_cases hf : nfl T n (wen T n (skp T n pr)) 1 99 = 0
            · rw [if_pos hf, if_neg (show ¬ (1 : Int32) = 0 by decide)] at hcr
              rw [hf] at k5 D3
              have Q5 := Q4.of k5 v5
              obtain ⟨y1, y2, y3⟩ := k5v hf
              rw [Q5.2.1, grd_t (vp_in_nI ht6 (by decide)), nI_clamp (by omega), y2, bnd2_t] at hcr
              unfold gGr at hcr
              rw [grd_t (Or.inr rfl)] at hcr
              have hv5 : 1 ≤ v5' ∧ v5' ≤ 99 := by
                unfold nfl at hf
                rw [y3]
                split at hf
                · omega
                · split at hf
                  · omega
                  · rename_i z8 z9
                    have := not_or.mp z9
                    exact Classical.not_not.mp this.2
              have wS : Same (fun p j => p = q + 7 ∧ j = t) r5 (ui r5 (q + 7) t (nI v5')) := (Same.rf _ r5).ui ⟨rfl, rfl⟩
              have Q6 : RR_ (ui r5 (q + 7) t (nI v5')) q t n T p5 (nI m) L := by
                have nq : ∀ j, ¬ ((fun p j => p = q + 7 ∧ j = t) q j) := fun j z => by simp only at z; omega
                have n1 : ∀ j, ¬ ((fun p j => p = q + 7 ∧ j = t) (q + 1) j) := fun j z => by simp only at z; omega
                exact ⟨⟨⟨by rw [(wS q 1 (nq _)).1]; exact Q5.1.1.1, Q5.1.1.2.1, fun k hk => by rw [(wS (q + 1) k (n1 _)).1]; exact Q5.1.1.2.2 k hk⟩, by rw [(wS q 11 (nq _)).1]; exact Q5.1.2.1, Q5.1.2.2.1, by rw [(wS q 12 (nq _)).1]; exact Q5.1.2.2.2.1, by rw [(wS q 15 (nq _)).1]; exact Q5.1.2.2.2.2⟩, by rw [(wS q 14 (nq _)).1]; exact Q5.2.1, Q5.2.2.of wS (fun z => by omega) (fun j z => by omega)⟩
              rw [← y3] at hdev
              have hp5 : wen T n (skp T n pr) ≤ p5 := by
                rw [y1]
                have a1 := skp_lo (T := T) hwl.2
                have a2 := den_lo (T := T) a1.2
                omega
              rw [← y1] at D3
              have D3' : DR κ (ui s3 a1 6 (nI v5')) a ta (a1 + 1) 0 n T p5 0 (nI m) := D3.soft hc
              refine goodEnd (ui s3 a1 6 (nI v5')) (ui r5 (q + 7) t (nI v5')) p5 p5 m true v5' L K ⟨⟨⟨D3', ?_⟩, Q6, rfl, hm, hv, hvc⟩, ?_, ?_, hcl, by omega, ?_⟩ ?_ (by omega) (by omega) (by omega) ?_ ?_ hcr _ hdev
              · exact C3.of (W := fun p j => p = a1 ∧ j = 6) ((Same.rf _ s3).ui ⟨rfl, rfl⟩) (fun z => by omega) (fun j z => by omega) (fun j z => by omega)
              · exact (KD2.pd (a := a) hca (rd_pd w3)).of (W := fun p j => p = a1 ∧ j = 6) ((Same.rf _ s3).ui ⟨rfl, rfl⟩) (fun z => by omega) (fun j d h1 h2 z => by omega)
              · exact ((KQ3.pb (rq_pb v4)).pb (rq_pb v5)).of wS (fun z => by omega) (fun j _ z => by omega)
              · exact ⟨(fun z => by cases z), fun _ => ⟨by rw [gi_ui, if_pos ⟨rfl, rfl⟩], by rw [gi_ui, if_pos ⟨rfl, rfl⟩], hv5.1, hv5.2⟩⟩
              · rw [(wS q 17 (fun z => by omega)).1, (v5 q 17 (fun z => by unfold rqW at z; omega)).1, (v4 q 17 (fun z => by unfold rqW at z; omega)).1]; exact a3'
              · exact ((pd_X wD2).tr (pd_X (rd_pd w3))).ui (Or.inr ⟨rfl, rfl⟩)
              · exact ((ph_X a4').tr (pb_X (rq_pb (v4.tr v5)))).ui (Or.inr (Or.inl ⟨rfl, rfl⟩))
            · right
              rw [if_neg hf, if_pos (show (0 : Int32) = 0 from rfl), bnd2_t] at hcr
              unfold gGr at hcr
              rw [grd_t (Or.inl rfl)] at hcr
              have FS3 : FS κ (ui s3 a1 6 (nI (nvl5 T (skp T n (wen T n (skp T n pr))) (den T n (skp T n (wen T n (skp T n pr))))))) a ta (a1 + 1) 0 n T (nfl T n (wen T n (skp T n pr)) 1 99) := (FS.mk (by omega) hnl D3).soft hc
              rw [hdev]
              obtain ⟨s5, e5, h5, w5⟩ := F_lwJ hc kd FS3 dd 1 (nI x5)
              exact ⟨s5, r5, _, e5, h5, by rw [hcr, bnd2_t, L_R_clausesHere_5, if_pos rfl], k5.2.2.2.1, (((pd_X wD2).tr (pd_X (rd_pd w3))).ui (Or.inr ⟨rfl, rfl⟩)).tr w5, (ph_X a4').tr (pb_X (rq_pb (v4.tr v5)))⟩
        · -- breaks, at
          have hj2 : ¬ oI (some j) = 2 := fun z => by
            have := (nI_eq (a := j) (b := 2) (by omega) (by decide)).mp z
            omega
          rw [if_neg hj2]
          have hcr : f_R_clauseHere κ q rs = bnd2 (f_R_clauseOf κ q (nI j) 1 rs3) gGr := by rw [a1']; unfold actK; rw [if_pos rfl, if_neg (by omega)]
          obtain ⟨r4, g4, k4, v4⟩ := r_pass (κ := κ) a2'.1
          have Q4 := a2'.of k4 v4
          have hP4 : PS κ s2 r4 a ta (a1 + 1) 0 q t n T (wen T n (skp T n pr)) (wen T n (skp T n pr)) L L m := ⟨⟨D2, C2⟩, Q4, rfl, hm, hv, hvc⟩
          rcases E_lawSum (κ := κ) (q := q) (T := T) hc hP4 g4 KD2 (KQ3.pb (rq_pb v4)) (by omega) (by omega) hj hca with ⟨ds5, rs5, L5, c5, pd5, pr5, m5, b1, b2, b3, b4, b5, b6, ⟨Z, hZ⟩, b8, b9, b10, b11⟩ | ⟨ds5, rs5, F, b1, b2, b3, b4, b5, b6⟩
          · rw [b2, bnd2_t] at hcr
            unfold gGr at hcr
            rw [grd_t (Or.inr rfl)] at hcr
            have hso4 : SoR ds5 rs5 a1 q t told sv := (hso3.of (Same.rf (fun _ _ => False) s2) (rq_pb (t := t) v4) (fun z => z) (fun z => rtW_n7 (Or.inl z))).of b10 b11 (lawW_n6 hca) rtW_n7
            refine goodEnd ds5 rs5 pd5 pr5 m5 told sv L5 (K ++ [c5]) ⟨b3, b4, b5, ?_, b9, hso4⟩ ?_ (by rw [List.length_append]; simp only [List.length_cons, List.length_nil]; omega) (by omega) (by omega) ((pd_X wD2).tr (law_X b10)) ((ph_X a4').tr ((pb_X (rq_pb v4)).tr (rt_X b11))) hcr _ (b1 _)
            · intro c hcm
              rw [List.mem_append, List.mem_singleton] at hcm
              rcases hcm with hcm | rfl
              · rw [hZ]; exact (hcl c hcm).mono
              · exact b6
            · rw [(b11 q 17 (fun z => by unfold rtW pbW cqW ckW at z; omega)).1, (v4 q 17 (fun z => by unfold rqW at z; omega)).1]; exact a3'
          · right
            rw [b3, bnd2_t] at hcr
            unfold gGr at hcr
            rw [grd_t (Or.inl rfl)] at hcr
            obtain ⟨s5, e5, h5, w5⟩ := F_lwJ hc kd b2 dd (b2i told) (nI x5)
            exact ⟨s5, rs5, F, (b1 _).trans e5, h5, by rw [hcr, bnd2_t, L_R_clausesHere_5, if_pos rfl], b4, ((pd_X wD2).tr (law_X b5)).tr w5, (ph_X a4').tr ((pb_X (rq_pb v4)).tr (rt_X b6))⟩
end LawLoop
