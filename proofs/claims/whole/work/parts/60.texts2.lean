/-! whole texts: how they end -/
def enW (q s c p j : Nat) : Prop := rqW q p j ∨ p = q ∧ j = 1 ∨ p = q + 2 ∨ s = 0 ∧ p = q + 7 ∧ j = c
def txW (q t p j : Nat) : Prop := rtX q t p j ∨ p = q ∧ j = 1 ∨ p = q + 2
def dvW (a a1 d p j : Nat) : Prop := rdX a p j ∨ a1 ≤ p ∧ p ≤ a1 + d
section Whole2
variable {κ : Ko} {a ta n q : Nat} {T : Nat → Nat}
theorem T_good {A iw pd pr : Nat} {md mr : Int32} {ds rs : AS} (hD : DR κ ds a ta A iw n T pd 0 md) (hR : RQ rs q n T pr 0 mr) (hsk : skp T n pd = skp T n pr) {s c : Nat} (hs : s < 4) (hc : c < 6) (h2 : gi rs (q + 2) s = nI c) (h7 : s = 0 → gi rs q 14 = nI c ∧ ((∃ sv, sv < 100 ∧ gi rs (q + 7) c = nI sv) ∨ gi rs (q + 7) c = -1)) :
    ∃ F ds' rs', F < 4000 ∧ kdC κ a ds = some (nI F, ds') ∧ txJ κ q (nI s) 1 rs = some ((if F = 0 then nI c else -2 - nI F), rs') ∧ gi rs' q 1 = 0 ∧ (∀ i, gi rs' (q + 2) i = if F = 0 ∧ i = s then nI (c + 1) else gi rs (q + 2) i) ∧ Same (rdW a) ds ds' ∧ Same (enW q s c) rs rs' ∧ (F = 0 → s = 0 → gi rs' (q + 7) c = if gi rs (q + 7) c = -1 then 99 else gi rs (q + 7) c) := by
  have hn := hD.1.1.2.2.1
  obtain ⟨ds', e1, w1⟩ := closesD hD
  obtain ⟨r1, g1, k1, v1⟩ := closesR (κ := κ) hR (nI s)
  have v1' : Same (enW q s c) rs r1 := v1.mono (fun _ _ z => Or.inl z)
  have hF : clF T n pr = clF T n pd := by unfold clF; rw [hsk]
  have hlt : clF T n pd < 4000 := by unfold clF; split <;> omega
  have g2 : ∀ i, gi r1 (q + 2) i = gi rs (q + 2) i := fun i => (v1 _ _ (fun z => by unfold rqW at z; omega)).1
  have g7 : ∀ i, gi r1 (q + 7) i = gi rs (q + 7) i := fun i => (v1 _ _ (fun z => by unfold rqW at z; omega)).1
  have g14 : gi r1 q 14 = gi rs q 14 := (v1 _ _ (fun z => by unfold rqW at z; omega)).1
  rw [hF] at k1
  by_cases hz : clF T n pd = 0
  · rw [hz] at e1 k1
    have hval : ∀ r2, txE κ q (nI s) r1 = some (nI c, r2) → gi r2 q 1 = 0 → (∀ i, gi r2 (q + 2) i = if i = s then nI (c + 1) else gi rs (q + 2) i) → Same (enW q s c) r1 r2 → (s = 0 → gi r2 (q + 7) c = if gi rs (q + 7) c = -1 then 99 else gi rs (q + 7) c) → ∃ F ds' rs', F < 4000 ∧ kdC κ a ds = some (nI F, ds') ∧ txJ κ q (nI s) 1 rs = some ((if F = 0 then nI c else -2 - nI F), rs') ∧ gi rs' q 1 = 0 ∧ (∀ i, gi rs' (q + 2) i = if F = 0 ∧ i = s then nI (c + 1) else gi rs (q + 2) i) ∧ Same (rdW a) ds ds' ∧ Same (enW q s c) rs rs' ∧ (F = 0 → s = 0 → gi rs' (q + 7) c = if gi rs (q + 7) c = -1 then 99 else gi rs (q + 7) c) := by
      intro r2 y1 y2 y3 y4 y5
      refine ⟨0, ds', r2, by decide, e1, by rw [g1, y1, if_pos rfl], y2, fun i => ?_, w1, v1'.tr y4, fun _ => y5⟩
      rw [y3 i]
      by_cases e : i = s
      · rw [if_pos e, if_pos ⟨rfl, e⟩]
      · rw [if_neg e, if_neg (fun z => e z.2)]
    have hSt : ∀ r0 : AS, gi r0 q 1 = 0 → (∀ i, gi r0 (q + 2) i = gi rs (q + 2) i) → gi (ui r0 (q + 2) s (nI (c + 1))) q 1 = 0 ∧ (∀ i, gi (ui r0 (q + 2) s (nI (c + 1))) (q + 2) i = if i = s then nI (c + 1) else gi rs (q + 2) i) := by
      intro r0 y1 y2
      refine ⟨by rw [gi_ui, if_neg (fun z => by omega)]; exact y1, fun i => ?_⟩
      rw [gi_ui]
      by_cases e : i = s
      · rw [if_pos ⟨rfl, e⟩, if_pos e]
      · rw [if_neg (fun z => e z.2), if_neg e, y2 i]
    have b1 : gi (ui r1 q 1 0) q 1 = 0 := by rw [gi_ui, if_pos ⟨rfl, rfl⟩]
    have b2 : ∀ i, gi (ui r1 q 1 0) (q + 2) i = gi rs (q + 2) i := fun i => by rw [gi_ui, if_neg (fun z => by omega)]; exact g2 i
    have w2 : Same (enW q s c) r1 (ui r1 q 1 0) := (Same.rf _ _).ui (by unfold enW; omega)
    by_cases hs0 : s = 0
    · subst hs0
      obtain ⟨h14, hsv⟩ := h7 rfl
      obtain ⟨t1, t2⟩ := txE_law (κ := κ) (rs := r1) hc k1 (by rw [g2]; exact h2) (by rw [g14]; exact h14)
      rcases hsv with ⟨sv, hsv, h7⟩ | h7
      · refine hval _ (t1 sv hsv (by rw [g7]; exact h7)) (hSt _ b1 b2).1 (hSt _ b1 b2).2 (w2.ui (by unfold enW; omega)) (fun _ => ?_)
        rw [gi_ui, if_neg (fun z => by omega), gi_ui, if_neg (fun z => by omega), g7, if_neg (by rw [h7]; exact nI_m1 (by omega))]
      · have b3 : gi (ui (ui r1 q 1 0) (q + 7) c 99) q 1 = 0 := by rw [gi_ui, if_neg (fun z => by omega)]; exact b1
        have b4 : ∀ i, gi (ui (ui r1 q 1 0) (q + 7) c 99) (q + 2) i = gi rs (q + 2) i := fun i => by rw [gi_ui, if_neg (fun z => by omega)]; exact b2 i
        refine hval _ (t2 (by rw [g7]; exact h7)) (hSt _ b3 b4).1 (hSt _ b3 b4).2 ((w2.ui (by unfold enW; omega)).ui (by unfold enW; omega)) (fun _ => ?_)
        rw [gi_ui, if_neg (fun z => by omega), gi_ui, if_pos ⟨rfl, rfl⟩, if_pos h7]
    · exact hval _ (txE_ok hs hs0 hc k1 (by rw [g2]; exact h2)) (hSt _ b1 b2).1 (hSt _ b1 b2).2 (w2.ui (by unfold enW; omega)) (fun z => absurd z hs0)
  · have hb := txE_bad (κ := κ) (q := q) (rs := r1) (F := clF T n pd) (by omega) hlt k1 (nI s)
    refine ⟨_, ds', _, hlt, e1, by rw [g1, hb, if_neg hz], by rw [gi_ui, if_pos ⟨rfl, rfl⟩], fun i => ?_, w1, v1'.ui (by unfold enW; omega), fun z => absurd z hz⟩
    rw [if_neg (fun z => hz z.1), gi_ui, if_neg (fun z => by omega), g2]
theorem T_bad {A iw F : Nat} {ds rs : AS} (hS : FS κ ds a ta A iw n T F) (h12 : gi rs q 12 = nI F) (s c : Nat) :
    ∃ ds' rs', F < 4000 ∧ F ≠ 0 ∧ kdC κ a ds = some (nI F, ds') ∧ txJ κ q (nI s) 0 rs = some (-2 - nI F, rs') ∧ gi rs' q 1 = 0 ∧ (∀ i, gi rs' (q + 2) i = gi rs (q + 2) i) ∧ Same (rdW a) ds ds' ∧ Same (enW q s c) rs rs' := by
  obtain ⟨ds', e1, w1⟩ := closesF hS
  obtain ⟨h0, h1⟩ := hS.1
  have hb := txE_bad (κ := κ) (q := q) (rs := rs) h0 h1 h12 (nI s)
  refine ⟨ds', ui rs q 1 0, h1, by omega, e1, ?_, by rw [gi_ui, if_pos ⟨rfl, rfl⟩], fun i => by rw [gi_ui, if_neg (fun z => by omega)], w1, (Same.rf _ _).ui (by unfold enW; omega)⟩
  unfold txJ
  rw [if_pos (show (0 : Int32) = 0 from rfl)]
  exact hb
/-- a told law, both sides -/
def LAWR (ds rs : AS) (a1 q t : Nat) : Prop := ∃ sv L K, CDL ds (a1 + 1) L ∧ CRL rs q t L ∧ KD ds a1 K ∧ KQ rs q t K ∧ (∀ c, c ∈ K → lawC L c) ∧ gi ds a1 6 = nI sv ∧ gi rs (q + 7) t = nI sv ∧ 1 ≤ sv ∧ sv ≤ 99 ∧ (∀ x, x ∈ L → x.1 < 14 ∧ x.2 < 100000) ∧ vcn L ≤ 60
def RULR (ds rs : AS) (a1 q t : Nat) : Prop := ∃ L K, CDL ds (a1 + 1) L ∧ CRL rs q t L ∧ KDu ds a1 K ∧ KQ rs q t K ∧ (∀ c, c ∈ K → ruleC L c) ∧ (∀ x, x ∈ L → x.1 < 14 ∧ x.2 < 100000) ∧ vcn L ≤ 60
def DOSR (ds rs : AS) (a1 q t : Nat) : Prop := ∃ K, KDd ds a1 K ∧ KQd rs q t K ∧ ∀ c, c ∈ K → doC c
def STPR (ds rs : AS) (a1 q k : Nat) : Prop := ∃ F P f, STD ds a1 F P f ∧ STQ rs q k F P f ∧ stOK F P f
noncomputable def kqC (v : Int32) (s : AS) : Option (Int32 × AS) := grd (v = 0 ∨ v = 1) (some (v, s))
theorem clausesHere_w (st : AS) : f_R_clausesHere κ q st = bnd2 (f_R_clauseHere κ q st) (fun v s => L_R_clausesHere_5 κ kqC FU q v s) := rfl
theorem readLaw_w (a1 : Nat) (x : Int32) (ds : AS) : f_Rd_readLaw κ a a1 x ds = grd (ly κ (a1 + 1) = (0, 4)) (L_Rd_readLaw_31 κ (kdC κ) FU a a1 (b2i false) 1 (nI 0) (ur (ur (ui (ui (ui (f_Rd_open κ a x ds) (a1 + 1) 3 0) a1 5 0) a1 6 99) a 5 (some (a1 + 1))) a 6 (some (kK (kt κ) 0)))) := rfl
theorem readRule_w (a1 : Nat) (x : Int32) (ds : AS) : f_Rd_readRule κ a a1 x ds = grd (ly κ (a1 + 1) = (0, 4)) (L_Rd_readRule_28 κ (kdC κ) FU a a1 1 (nI 0) (ur (ur (ui (ui (f_Rd_open κ a x ds) (a1 + 1) 3 0) a1 4 0) a 5 (some (a1 + 1))) a 6 (some (kK (kt κ) 9)))) := rfl
theorem readDoing_w (a1 : Nat) (x : Int32) (ds : AS) : f_Rd_readDoing κ a a1 x ds = L_Rd_readDoing_14 κ (kdC κ) FU a a1 1 (nI 0) (ui (f_Rd_open κ a x ds) a1 4 0) := rfl
theorem readStrip_w (a1 : Nat) (x : Int32) (ds : AS) : f_Rd_readStrip κ a a1 x ds = bnd2 (f_Rd_number κ a (1 : Int32) (9999 : Int32) (f_Rd_open κ a x ds)) (fun v1 s2 => L_Rd_readStrip_22 κ (kdC κ) FU a a1 1 (nI 0) (gput (ui s2 a1 2 0) (a1 + 1) 21 (0 : Int32) v1)) := rfl
theorem stripHere_w (x1 : Int32) (st : AS) : f_R_stripHere κ q x1 st = grd (vp_in x1 6) (bnd2 (f_R_numberHere κ q (1 : Int32) (9999 : Int32) (ui st (q + 10) (x1 : Int32).toNatClampNeg 0)) (fun v2 s3 => if v2 = 0 then some ((0 : Int32), s3) else grd (vp_in ((21 : Int32) * x1) 126) (L_R_stripHere_33 κ (spK κ) FU q x1 (ui s3 (q + 8) ((21 : Int32) * x1 : Int32).toNatClampNeg (gi s3 q 13))))) := rfl
end Whole2
