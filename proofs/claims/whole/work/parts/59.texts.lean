/-! whole texts, both readers -/
noncomputable def txE (κ : Ko) (a0 : Nat) (x1 : Int32) (s21 : AS) : Option (Int32 × AS) := if (gi (ui s21 a0 1 0) a0 12) ≤ 0 then jn (fun (s25 : AS) => grd (vp_in x1 4) (grd (vp_in x1 4) (grd (vp_in x1 4) (some ((gi (ui s25 (a0 + 2) (x1 : Int32).toNatClampNeg ((gi s25 (a0 + 2) (x1 : Int32).toNatClampNeg) + 1)) (a0 + 2) (x1 : Int32).toNatClampNeg) - 1, ui s25 (a0 + 2) (x1 : Int32).toNatClampNeg ((gi s25 (a0 + 2) (x1 : Int32).toNatClampNeg) + 1)))))) fun j24 => if x1 = 0 then grd (vp_in (gi (ui s21 a0 1 0) a0 14) 6) (if 0 ≤ (gi (ui s21 a0 1 0) (a0 + 7) (gi (ui s21 a0 1 0) a0 14 : Int32).toNatClampNeg) then j24 (ui s21 a0 1 0) else grd (vp_in (gi (ui s21 a0 1 0) a0 14) 6) (j24 (ui (ui s21 a0 1 0) (a0 + 7) (gi (ui s21 a0 1 0) a0 14 : Int32).toNatClampNeg 99))) else j24 (ui s21 a0 1 0) else some (((-2) : Int32) - (gi (ui s21 a0 1 0) a0 12), (ui s21 a0 1 0))
noncomputable def txJ (κ : Ko) (a0 : Nat) (x1 v16 : Int32) (s17 : AS) : Option (Int32 × AS) := if v16 = 0 then txE κ a0 x1 s17 else bnd2 (f_R_see κ a0 s17) (fun v18 s19 => if v18 = ((-1)) then txE κ a0 x1 s19 else txE κ a0 x1 ((f_R_fails κ a0 (0 : Int32) (gi s19 a0 11) s19).2))
noncomputable def txM (κ : Ko) (a0 : Nat) (x1 : Int32) (s9 : AS) : Option (Int32 × AS) := if x1 = 3 then grd (vp_in 3 4) (bnd2 (f_R_stripHere κ a0 (gi (ui (ui (ui (ui s9 a0 17 0) a0 11 0) a0 12 0) a0 15 0) (a0 + 2) (3 : Int32).toNatClampNeg) (ui (ui (ui (ui s9 a0 17 0) a0 11 0) a0 12 0) a0 15 0)) (fun v13 s14 => txJ κ a0 x1 v13 s14)) else bnd2 (f_R_clausesHere κ a0 (ui (ui (ui (ui s9 a0 17 0) a0 11 0) a0 12 0) a0 15 0)) (fun v10 s11 => txJ κ a0 x1 v10 s11)
noncomputable def txN (κ : Ko) (a0 : Nat) (x1 : Int32) (s6 : AS) : Option (Int32 × AS) := if x1 = 0 then grd (vp_in (gi s6 a0 14) 6) (txM κ a0 x1 (ui s6 (a0 + 7) (gi s6 a0 14 : Int32).toNatClampNeg ((-1)))) else txM κ a0 x1 s6
noncomputable def txP (κ : Ko) (a0 : Nat) (x1 : Int32) (st : AS) : Option (Int32 × AS) := grd (vp_in x1 4) (if 3 ≤ x1 then txN κ a0 x1 (ui st a0 14 (((6 : Int32) * x1) + (gi st (a0 + 2) (x1 : Int32).toNatClampNeg))) else grd (vp_in (gi (ui st a0 14 (((6 : Int32) * x1) + (gi st (a0 + 2) (x1 : Int32).toNatClampNeg))) a0 14) 18) (grd (vp_in (gi (ui (ui st a0 14 (((6 : Int32) * x1) + (gi st (a0 + 2) (x1 : Int32).toNatClampNeg))) (a0 + 4) (gi (ui st a0 14 (((6 : Int32) * x1) + (gi st (a0 + 2) (x1 : Int32).toNatClampNeg))) a0 14 : Int32).toNatClampNeg 0) a0 14) 18) (txN κ a0 x1 (ui (ui (ui st a0 14 (((6 : Int32) * x1) + (gi st (a0 + 2) (x1 : Int32).toNatClampNeg))) (a0 + 4) (gi (ui st a0 14 (((6 : Int32) * x1) + (gi st (a0 + 2) (x1 : Int32).toNatClampNeg))) a0 14 : Int32).toNatClampNeg 0) (a0 + 6) (gi (ui (ui st a0 14 (((6 : Int32) * x1) + (gi st (a0 + 2) (x1 : Int32).toNatClampNeg))) (a0 + 4) (gi (ui st a0 14 (((6 : Int32) * x1) + (gi st (a0 + 2) (x1 : Int32).toNatClampNeg))) a0 14 : Int32).toNatClampNeg 0) a0 14 : Int32).toNatClampNeg 0))))
theorem f_text_e (κ : Ko) (a0 : Nat) (x1 : Int32) (st : AS) : f_R_text κ a0 x1 st = if (wi ((x1 : Int32).toInt64) (0 : Int64) (3 : Int64)) = 0 then some (((-1) : Int32), st) else grd (vp_in x1 4) (if (gi st (a0 + 2) (x1 : Int32).toNatClampNeg) = 6 then some (((-1) : Int32), st) else txP κ a0 x1 st) := rfl
theorem RS.gen {κ : Ko} {ds ds' : AS} {a ta n p : Nat} {T : Nat → Nat} {f m : Int32} {W : Nat → Nat → Prop} (h : RS κ ds a ta n T p f m) (hw : Same W ds ds') (na : ∀ j, j < 5 → ¬ W a j) (nt : ∀ j, ¬ W ta j) : RS κ ds' a ta n T p f m :=
  ⟨⟨by rw [(hw a 0 (na _ (by decide))).2.2]; exact h.1.1, h.1.2.1, h.1.2.2.1, by rw [(hw a 1 (na _ (by decide))).1]; exact h.1.2.2.2.1, fun k hk => by rw [(hw ta k (nt _)).1]; exact h.1.2.2.2.2.1 k hk, h.1.2.2.2.2.2⟩, by rw [(hw a 2 (na _ (by decide))).1]; exact h.2.1, h.2.2.1, by rw [(hw a 3 (na _ (by decide))).1]; exact h.2.2.2.1, by rw [(hw a 4 (na _ (by decide))).1]; exact h.2.2.2.2⟩
theorem TQ.gen {rs rs' : AS} {q n : Nat} {T : Nat → Nat} {W : Nat → Nat → Prop} (h : TQ rs q n T) (hw : Same W rs rs') (n1 : ¬ W q 1) (n2 : ∀ j, ¬ W (q + 1) j) : TQ rs' q n T :=
  ⟨by rw [(hw q 1 n1).1]; exact h.1, h.2.1, fun k hk => by rw [(hw (q + 1) k (n2 _)).1]; exact h.2.2 k hk⟩
/-- a tape that a reader has before it -/
def TD0 (κ : Ko) (ds : AS) (a ta n : Nat) (T : Nat → Nat) : Prop := gr ds a 0 = some ta ∧ ly κ ta = (50, 400) ∧ n ≤ 400 ∧ (∀ k, k < n → gi ds ta k = nI (T k) ∧ T k < 256) ∧ ta < a
/-- what a reader writes of its own -/
def rdX (a p j : Nat) : Prop := p = a ∧ 1 ≤ j ∧ j ≤ 6
theorem rd_rx {a : Nat} {s1 s2 : AS} (h : Same (rdW a) s1 s2) : Same (rdX a) s1 s2 := h.mono (fun _ _ z => ⟨z.1, by unfold rdW at z; omega, by unfold rdW at z; omega⟩)
theorem nI_m1 {x : Nat} (h : x < 2000000) : ¬ (nI x : Int32) = -1 := fun z => by
  have e : nI (x + 1) = 0 := by rw [← nI_1, z]; rfl
  exact nI_ne0 (n := x + 1) (by omega) (by omega) e
section Whole
variable {κ : Ko} {a ta n q : Nat} {T : Nat → Nat}
theorem d_open {ds : AS} (h : TD0 κ ds a ta n T) : RS κ (f_Rd_open κ a (nI n) ds) a ta n T 0 0 0 ∧ Same (rdX a) ds (f_Rd_open κ a (nI n) ds) := by
  have hne : ta ≠ a := by have := h.2.2.2.2; omega
  refine ⟨⟨⟨h.1, h.2.1, h.2.2.1, ?_, fun k hk => ?_, hne⟩, ?_, Nat.zero_le _, ?_, ?_⟩, ?_⟩
  · unfold f_Rd_open
    rw [gi_ui, if_neg (fun z => by omega), gi_ui, if_neg (fun z => by omega), gi_ui, if_neg (fun z => by omega), gi_ui, if_pos ⟨rfl, rfl⟩]
  · unfold f_Rd_open
    rw [gi_ui, if_neg (fun z => hne z.1), gi_ui, if_neg (fun z => hne z.1), gi_ui, if_neg (fun z => hne z.1), gi_ui, if_neg (fun z => hne z.1)]
    exact h.2.2.2.1 k hk
  · unfold f_Rd_open
    rw [gi_ui, if_neg (fun z => by omega), gi_ui, if_neg (fun z => by omega), gi_ui, if_pos ⟨rfl, rfl⟩]
    rfl
  · unfold f_Rd_open
    rw [gi_ui, if_neg (fun z => by omega), gi_ui, if_pos ⟨rfl, rfl⟩]
  · unfold f_Rd_open
    rw [gi_ui, if_pos ⟨rfl, rfl⟩]
  · unfold f_Rd_open
    exact ((((Same.rf _ _).ui ⟨rfl, by decide, by decide⟩).ui ⟨rfl, by decide, by decide⟩).ui ⟨rfl, by decide, by decide⟩).ui ⟨rfl, by decide, by decide⟩
noncomputable def kdC (κ : Ko) (v : Nat) (s : AS) : Option (Int32 × AS) := bnd2 (f_Rd_close κ v s) (fun v1 s1 => some (v1, s1))
noncomputable def clF (T : Nat → Nat) (n p : Nat) : Nat := if skp T n p < n then 1 + 8 * skp T n p else 0
theorem closesD {ds : AS} {A iw p : Nat} {m : Int32} (h : DR κ ds a ta A iw n T p 0 m) : ∃ ds', kdC κ a ds = some (nI (clF T n p), ds') ∧ Same (rdW a) ds ds' := by
  obtain ⟨s1, e1, h1, w1⟩ := d_next h.1
  have hn := h.1.1.2.2.1
  have hlo := skp_lo (T := T) h.1.2.2.1
  unfold kdC f_Rd_close clF
  simp only [jn_e]
  rw [e1, bnd2_t, h1.1.2.2.2.1]
  by_cases hf : skp T n p < n
  · rw [if_neg (nI_ge hf (by omega)), if_pos hf]
    obtain ⟨s2, e2, h2, w2⟩ := d_fail (κ := κ) h1 (x := gi s1 a 2) (y := 0) (b := skp T n p) (k := 0) h1.2.1 rfl
    rw [e2, bnd2_t, h2.2.2.2.1, ffl_0]
    exact ⟨s2, rfl, w1.tr w2⟩
  · rw [if_pos (nI_le (by omega) (by omega)), if_neg hf, bnd2_t, h1.2.2.2.1]
    exact ⟨s1, rfl, w1⟩
theorem closesF {ds : AS} {A iw F : Nat} (h : FS κ ds a ta A iw n T F) : ∃ ds', kdC κ a ds = some (nI F, ds') ∧ Same (rdW a) ds ds' := by
  obtain ⟨hF, p, m, hD⟩ := h
  obtain ⟨s1, e1, h1, w1⟩ := d_next hD.1
  have hn := hD.1.1.2.2.1
  unfold kdC f_Rd_close
  simp only [jn_e]
  rw [e1, bnd2_t, h1.1.2.2.2.1]
  by_cases hf : nI n ≤ nI (skp T n p)
  · rw [if_pos hf, bnd2_t, h1.2.2.2.1]
    exact ⟨s1, rfl, w1⟩
  · rw [if_neg hf]
    obtain ⟨s2, e2, h2, w2⟩ := d_fail (κ := κ) h1 (x := gi s1 a 2) (y := 0) (b := skp T n p) (k := 0) h1.2.1 rfl
    rw [e2, bnd2_t, h2.2.2.2.1, ffl_n hF.1 hF.2]
    exact ⟨s2, rfl, w1.tr w2⟩
theorem closesR {rs : AS} {p : Nat} {m : Int32} (h : RQ rs q n T p 0 m) (x1 : Int32) : ∃ rs', txJ κ q x1 1 rs = txE κ q x1 rs' ∧ gi rs' q 12 = nI (clF T n p) ∧ Same (rqW q) rs rs' := by
  obtain ⟨r1, g1, k1, v1⟩ := r_see (κ := κ) h
  unfold txJ clF
  rw [if_neg (show ¬ (1 : Int32) = 0 by decide), g1, bnd2_t]
  by_cases hf : skp T n p < n
  · have hb := (h.1.2.2 _ hf).2
    unfold nxt
    rw [if_pos hf, if_neg (nI_m1 (by omega)), if_pos hf]
    obtain ⟨r2, g2, k2, v2⟩ := r_fails (κ := κ) k1 (x := 0) (y := gi r1 q 11) (b := skp T n p) (k := 0) rfl k1.2.1
    rw [g2]
    exact ⟨r2, rfl, k2.2.2.2.1, v1.tr v2⟩
  · unfold nxt
    rw [if_neg hf, if_pos rfl, if_neg hf]
    exact ⟨r1, rfl, k1.2.2.2.1, v1⟩
theorem r_opens0 {rs : AS} {s c t : Nat} (hs : s < 3) (hc : c < 6) (ht : t = 6 * s + c) (hq : TQ rs q n T) (h2 : gi rs (q + 2) s = nI c) : ∃ S, txP κ q (nI s) rs = bnd2 (f_R_clausesHere κ q S) (fun v s1 => txJ κ q (nI s) v s1) ∧ RR_ S q t n T 0 0 [] ∧ gi S q 17 = nI 0 ∧ gi S (q + 6) t = nI 0 ∧ (s = 0 → gi S (q + 7) t = -1) ∧ Same (rtX q t) rs S := by
  have hn := hq.2.1
  have ht18 : t < 18 := by omega
  have k3 := nI_ltk (m := s) (k := 3) (y := 3) rfl (by omega) (by decide)
  have e1 : gi (ui rs q 14 (nI t)) q 14 = nI t := by rw [gi_ui, if_pos ⟨rfl, rfl⟩]
  have e2 : gi (ui (ui rs q 14 (nI t)) (q + 4) t 0) q 14 = nI t := by rw [gi_ui, if_neg (fun z => by omega)]; exact e1
  have e3 : gi (ui (ui (ui rs q 14 (nI t)) (q + 4) t 0) (q + 6) t 0) q 14 = nI t := by rw [gi_ui, if_neg (fun z => by omega)]; exact e2
  unfold txP
  rw [grd_t (vp_in_nI (show s < 4 by omega) (by decide)), nI_clamp (show s < 2 ^ 31 by omega), h2, show (6 : Int32) * nI s + nI c = nI t by rw [show (6 : Int32) = nI 6 from rfl, nI_mul, nI_add, ht], if_neg (show ¬ (3 : Int32) ≤ nI s from fun z => by have := k3.2.2.2.1.mp z; omega), e1, nI_clamp (show t < 2 ^ 31 by omega), e2, nI_clamp (show t < 2 ^ 31 by omega), grd_t (vp_in_nI ht18 (by decide)), grd_t (vp_in_nI ht18 (by decide))]
  have hw : ∀ S0, Same (rtX q t) rs S0 → gi S0 q 14 = nI t → gi S0 (q + 4) t = 0 → gi S0 (q + 6) t = 0 → (s = 0 → gi S0 (q + 7) t = -1) → ∃ S, txM κ q (nI s) S0 = bnd2 (f_R_clausesHere κ q S) (fun v s1 => txJ κ q (nI s) v s1) ∧ RR_ S q t n T 0 0 [] ∧ gi S q 17 = nI 0 ∧ gi S (q + 6) t = nI 0 ∧ (s = 0 → gi S (q + 7) t = -1) ∧ Same (rtX q t) rs S := by
    intro S0 w0 g14 g4 g6 g7
    unfold txM
    rw [if_neg (show ¬ nI s = 3 from fun z => by have := k3.2.2.2.2.mp z; omega)]
    have w1 : Same (rtX q t) S0 (ui (ui (ui (ui S0 q 17 0) q 11 0) q 12 0) q 15 0) := ((((Same.rf _ _).ui (Or.inr (Or.inr ⟨rfl, rfl⟩))).ui (by unfold rtX rtW pbW; omega)).ui (by unfold rtX rtW pbW; omega)).ui (by unfold rtX rtW pbW; omega)
    have hTQ : TQ (ui (ui (ui (ui S0 q 17 0) q 11 0) q 12 0) q 15 0) q n T := hq.gen (w0.tr w1) (fun z => by unfold rtX rtW pbW cqW ckW at z; omega) (fun j z => by unfold rtX rtW pbW cqW ckW at z; omega)
    refine ⟨_, rfl, ⟨⟨hTQ, ?_, Nat.zero_le _, ?_, ?_⟩, ?_, ?_, Nat.zero_le _, fun k hk => absurd hk (Nat.not_lt_zero _)⟩, ?_, ?_, fun z => ?_, w0.tr w1⟩
    · rw [gi_ui, if_neg (fun z => by omega), gi_ui, if_neg (fun z => by omega), gi_ui, if_pos ⟨rfl, rfl⟩]; rfl
    · rw [gi_ui, if_neg (fun z => by omega), gi_ui, if_pos ⟨rfl, rfl⟩]
    · rw [gi_ui, if_pos ⟨rfl, rfl⟩]
    · rw [gi_ui, if_neg (fun z => by omega), gi_ui, if_neg (fun z => by omega), gi_ui, if_neg (fun z => by omega), gi_ui, if_neg (fun z => by omega)]; exact g14
    · rw [gi_ui, if_neg (fun z => by omega), gi_ui, if_neg (fun z => by omega), gi_ui, if_neg (fun z => by omega), gi_ui, if_neg (fun z => by omega)]; exact g4
    · rw [gi_ui, if_neg (fun z => by omega), gi_ui, if_neg (fun z => by omega), gi_ui, if_neg (fun z => by omega), gi_ui, if_pos ⟨rfl, rfl⟩]; rfl
    · rw [gi_ui, if_neg (fun z => by omega), gi_ui, if_neg (fun z => by omega), gi_ui, if_neg (fun z => by omega), gi_ui, if_neg (fun z => by omega)]; exact g6
    · rw [gi_ui, if_neg (fun z => by omega), gi_ui, if_neg (fun z => by omega), gi_ui, if_neg (fun z => by omega), gi_ui, if_neg (fun z => by omega)]; exact g7 z
  have w3 : Same (rtX q t) rs (ui (ui (ui rs q 14 (nI t)) (q + 4) t 0) (q + 6) t 0) := (((Same.rf _ _).ui (by unfold rtX rtW pbW; omega)).ui (by unfold rtX rtW pbW cqW; omega)).ui (by unfold rtX rtW ckW; omega)
  have g4 : gi (ui (ui (ui rs q 14 (nI t)) (q + 4) t 0) (q + 6) t 0) (q + 4) t = 0 := by rw [gi_ui, if_neg (fun z => by omega), gi_ui, if_pos ⟨rfl, rfl⟩]
  have g6 : gi (ui (ui (ui rs q 14 (nI t)) (q + 4) t 0) (q + 6) t 0) (q + 6) t = 0 := by rw [gi_ui, if_pos ⟨rfl, rfl⟩]
  generalize ui (ui (ui rs q 14 (nI t)) (q + 4) t 0) (q + 6) t 0 = S0 at *
  unfold txN
  by_cases hs0 : s = 0
  · rw [if_pos (show nI s = 0 by rw [hs0]; rfl), e3, grd_t (vp_in_nI (show t < 6 by omega) (by decide)), nI_clamp (show t < 2 ^ 31 by omega)]
    exact hw _ (w3.ui (by unfold rtX; omega)) (by rw [gi_ui, if_neg (fun z => by omega)]; exact e3) (by rw [gi_ui, if_neg (fun z => by omega)]; exact g4) (by rw [gi_ui, if_neg (fun z => by omega)]; exact g6) (fun _ => by rw [gi_ui, if_pos ⟨rfl, rfl⟩])
  · rw [if_neg (nI_ne0 (n := s) (by omega) (by omega))]
    exact hw _ w3 e3 g4 g6 (fun z => absurd z hs0)
theorem txE_bad {rs : AS} {F : Nat} (h0 : 0 < F) (h : F < 4000) (h12 : gi rs q 12 = nI F) (x1 : Int32) : txE κ q x1 rs = some (-2 - nI F, ui rs q 1 0) := by
  have k0 := nI_ltk (m := F) (k := 0) (y := 0) rfl (by omega) (by decide)
  unfold txE
  rw [show gi (ui rs q 1 0) q 12 = nI F by rw [gi_ui, if_neg (fun z => by omega)]; exact h12, if_neg (show ¬ nI F ≤ 0 from fun z => by have := k0.2.1.mp z; omega)]
theorem cnt_1 {c : Nat} (hc : c < 6) : nI (c + 1) - 1 = nI c := by
  rw [show (1 : Int32) = nI 1 from rfl, nI_sub (by omega), Nat.add_sub_cancel]
theorem txE_ok {rs : AS} {s c : Nat} (hs : s < 4) (hs0 : s ≠ 0) (hc : c < 6) (h12 : gi rs q 12 = 0) (h2 : gi rs (q + 2) s = nI c) : txE κ q (nI s) rs = some (nI c, ui (ui rs q 1 0) (q + 2) s (nI (c + 1))) := by
  unfold txE
  simp only [jn_e]
  rw [show gi (ui rs q 1 0) q 12 = 0 by rw [gi_ui, if_neg (fun z => by omega)]; exact h12, if_pos (show (0 : Int32) ≤ 0 by decide), if_neg (nI_ne0 (n := s) (by omega) (by omega)), grd_t (vp_in_nI hs (by decide)), grd_t (vp_in_nI hs (by decide)), grd_t (vp_in_nI hs (by decide)), nI_clamp (show s < 2 ^ 31 by omega), gi_ui (ui rs q 1 0), if_pos ⟨rfl, rfl⟩, gi_ui, if_neg (fun z => by omega), h2, nI_1, cnt_1 hc]
theorem txE_law {rs : AS} {c : Nat} (hc : c < 6) (h12 : gi rs q 12 = 0) (h2 : gi rs (q + 2) 0 = nI c) (h14 : gi rs q 14 = nI c) : (∀ sv, sv < 100 → gi rs (q + 7) c = nI sv → txE κ q 0 rs = some (nI c, ui (ui rs q 1 0) (q + 2) 0 (nI (c + 1)))) ∧ (gi rs (q + 7) c = -1 → txE κ q 0 rs = some (nI c, ui (ui (ui rs q 1 0) (q + 7) c 99) (q + 2) 0 (nI (c + 1)))) := by
  have e14 : gi (ui rs q 1 0) q 14 = nI c := by rw [gi_ui, if_neg (fun z => by omega)]; exact h14
  have e7 : gi (ui rs q 1 0) (q + 7) c = gi rs (q + 7) c := by rw [gi_ui, if_neg (fun z => by omega)]
  have e12 : gi (ui rs q 1 0) q 12 = 0 := by rw [gi_ui, if_neg (fun z => by omega)]; exact h12
  have v0 : vp_in 0 4 := vp_n (n := 0) rfl (by decide) (by decide)
  unfold txE
  simp only [jn_e]
  rw [e12, if_pos (show (0 : Int32) ≤ 0 by decide), if_true, e14, grd_t (vp_in_nI hc (by decide)), nI_clamp (show c < 2 ^ 31 by omega), e7]
  refine ⟨fun sv hsv h7 => ?_, fun h7 => ?_⟩
  · rw [h7, if_pos (by have := (nI_ltk (m := sv) (k := 0) (y := 0) rfl (by omega) (by decide)).2.2.2.1; exact this.mpr (Nat.zero_le _)), grd_t v0, grd_t v0, grd_t v0, show (0 : Int32).toNatClampNeg = 0 from rfl, gi_ui (ui rs q 1 0), if_pos ⟨rfl, rfl⟩, gi_ui, if_neg (fun z => by omega), h2, nI_1, cnt_1 hc]
  · rw [h7, if_neg (show ¬ (0 : Int32) ≤ -1 by decide), grd_t (vp_in_nI hc (by decide)), grd_t v0, grd_t v0, grd_t v0, show (0 : Int32).toNatClampNeg = 0 from rfl, gi_ui (ui (ui rs q 1 0) (q + 7) c 99), if_pos ⟨rfl, rfl⟩, gi_ui, if_neg (fun z => by omega), gi_ui, if_neg (fun z => by omega), h2, nI_1, cnt_1 hc]
end Whole
