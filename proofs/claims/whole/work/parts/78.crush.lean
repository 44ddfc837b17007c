/-! a pressing: the facets gone through -/
def wyN (S : Nat → Int32) (f : Nat) : Nat := (wayS S f).toNatClampNeg
def lgN (S : Nat → Int32) (f : Nat) : Nat := (lngS S f).toNatClampNeg
/-- drawn once -/
def drw (S : Nat → Int32) : Nat → Int32 := setS S 4 (nI (drN (sN S 4)))
def chN (S : Nat → Int32) : Nat := (drN (sN S 4) / 65536) % 1000
noncomputable def brT (L : List (Nat × Nat)) (K : List c4) (tg tot : Int32) (S : Nat → Int32) (f : Nat) : Int32 := brk (wdS S f (S 5) tg tot) L K
/-- whether the facet breaks -/
noncomputable def gos (L : List (Nat × Nat)) (K : List c4) (tg tot : Int32) (S : Nat → Int32) (f : Nat) : Bool :=
  !decide (lngS S f < 2) && !decide (brT L K tg tot (drw S) f ≤ nI (chN S)) && decide (nF S < 200) && decide (nR S < 400)
/-- n facets from f on: the row, how many broke -/
noncomputable def crs (L : List (Nat × Nat)) (K : List c4) (tg tot : Int32) : Nat → Nat → Int32 → (Nat → Int32) → (Nat → Int32) × Int32
  | 0, _, b, S => (S, b)
  | n + 1, f, b, S => if gos L K tg tot S f = true then crs L K tg tot n (f + 1) (b + 1) (brkS (wdS (drw S) f ((drw S) 5) tg tot) L K (drw S) f (wyN S f) (lgN S f)) else crs L K tg tot n (f + 1) b (drw S)
/-- what the class foretells on the way -/
noncomputable def fts (L : List (Nat × Nat)) (K : List c4) (tg tot : Int32) : Nat → Nat → Int32 → (Nat → Int32) → Int32
  | 0, _, t, _ => t
  | n + 1, f, t, S => fts L K tg tot n (f + 1) (t + (if lngS S f < 2 then 0 else brT L K tg tot (drw S) f * shtS S f)) (if gos L K tg tot S f = true then brkS (wdS (drw S) f ((drw S) 5) tg tot) L K (drw S) f (wyN S f) (lgN S f) else drw S)
section Crush
variable {κ : Ko} {a q s f : Nat} {S : Nat → Int32} {L : List (Nat × Nat)} {K : List c4} {tg tot : Int32}
theorem sok_drw (hk : SOK S) : SOK (drw S) := sok_x hk (by have := drN_lt (sN S 4); omega)
theorem drw_6 : nF (drw S) = nF S := by unfold nF; rfl
theorem drw_7 : nR (drw S) = nR S := by unfold nR; rfl
theorem way_w (hk : SOK S) (hf : f < nF S) : wyN S f < 2 ∧ wayS S f = nI (wyN S f) ∧ lngS S f = nI (lgN S f) ∧ lgN S f ≤ 200 ∧ (¬ lngS S f < 2 → 2 ≤ lgN S f) := by
  obtain ⟨w, g, h, h1, h2, h3, h4, h5, h6, h7, h8, h9⟩ := way_n hk hf
  have e1 : wyN S f = w := by unfold wyN; rw [h2, nI_clamp (by omega)]
  have e2 : lgN S f = g := by unfold lgN; rw [h3, nI_clamp (by omega)]
  rw [e1, e2]
  refine ⟨h1, h2, h3, h9, fun z => ?_⟩
  rw [h3] at z
  have := (nI_ltk (m := g) (k := 2) (y := 2) rfl (by omega) (by decide)).1
  have : ¬ g < 2 := fun y => z (this.mpr y)
  omega
theorem sok_brkS {w : Nat → Int64} (hk : SOK S) (hf : f < nF S) (hF : nF S < 200) (hR : nR S < 400) (hg : ¬ lngS S f < 2) : SOK (brkS w L K S f (wyN S f) (lgN S f)) := by
  obtain ⟨wy, g, h, h1, h2, h3, h4, h5, h6, h7, h8, h9⟩ := way_n hk hf
  have e1 : wyN S f = wy := by unfold wyN; rw [h2, nI_clamp (by omega)]
  have e2 : lgN S f = g := by unfold lgN; rw [h3, nI_clamp (by omega)]
  have hg2 := (way_w hk hf).2.2.2.2 hg
  rw [e2] at hg2
  rw [e1, e2]
  unfold brkS
  cases thI w L 1 K K.length 0 with
  | none =>
    have e : ∀ k, k ≠ 4 → setS S 4 (nI (drN (sN S 4))) k = S k := fun k hk => if_neg hk
    have hm := Nat.mod_lt (drN (sN S 4) / 65536) (show 0 < g - 1 by omega)
    exact sok_brk (S := setS S 4 (nI (drN (sN S 4)))) (sok_drw hk) (f := f) (by have := drw_6 (S := S); unfold drw at this; rw [this]; exact hf) (by have := drw_6 (S := S); unfold drw at this; rw [this]; exact hF) (by have := drw_7 (S := S); unfold drw at this; rw [this]; exact hR) h1 (by rw [sht_x]; exact h4) (by rw [e _ (by omega)]; exact h5) (by rw [e _ (by omega)]; exact h6) h7 h8 h9 (by omega) (by omega)
  | some j =>
    obtain ⟨p, p1, p2, p3, p4, p5⟩ := told_place (smv w L (kg K j)) hg2 h9
    have : tpl (smv w L (kg K j)) g = nI p := p5
    simp only [this]
    exact sok_brk hk hf hF hR h1 h4 h5 h6 h7 h8 h9 p1 (by omega)
theorem brkS_2 {w : Nat → Int64} {wy g : Nat} : brkS w L K S f wy g 2 = S 2 := by
  unfold brkS
  cases thI w L 1 K K.length 0 with
  | none => exact brk2_lo (by decide) (by decide) (by decide)
  | some j => exact brk2_lo (by decide) (by decide) (by decide)
theorem brkS_F {w : Nat → Int64} {wy g : Nat} (hF : nF S < 200) : nF (brkS w L K S f wy g) = nF S + 1 := by
  unfold brkS
  cases thI w L 1 K K.length 0 with
  | none =>
    have e := drw_6 (S := S)
    unfold drw at e
    show (brk2 _ f wy _ 6).toNatClampNeg = _
    rw [brk2_6, e, nI_clamp (by omega)]
  | some j =>
    show (brk2 _ f wy _ 6).toNatClampNeg = _
    rw [brk2_6, nI_clamp (by omega)]
theorem LWD.sh {ds ds' : AS} {l : Nat} (h : LWD ds (LA κ l) L K) (hl : l < 6) (ha : a + 4 < LA κ l ∨ LA κ l + 8 < a) (hw : Same (shW κ a) ds ds') : LWD ds' (LA κ l) L K :=
  h.fr hw (fun p j h1 h2 h3 z => by
    rcases z with ⟨⟨z1, z2⟩, -⟩ | ⟨l', hl', z⟩
    · omega
    · unfold LA at *; omega)
theorem d_crL (hL : LWT L K) (l : Nat) (hl6 : l < 6) (ha : a + 4 < LA κ l ∨ LA κ l + 8 < a) (th : Nat) (k : Nat → Int32 → Int32 → AS → Option (Int32 × AS)) : ∀ n f d b t S dt, f + n = th → n < d → th ≤ nF S → ShD κ dt a S → SOK S → (S 2).toNatClampNeg = l → LWD dt (LA κ l) L K →
    ∃ dt', L_Sh_crush_75 κ k d a tg tot (nI th) b t (nI f) dt = k a (crs L K tg tot n f b S).2 (fts L K tg tot n f t S) dt' ∧ ShD κ dt' a (crs L K tg tot n f b S).1 ∧ SOK (crs L K tg tot n f b S).1 ∧ Same (shW κ a) dt dt' := by
  intro n
  induction n with
  | zero =>
    intro f d b t S dt hf hd hth h hk h2 hl
    obtain ⟨d, rfl⟩ : ∃ e, d = e + 1 := ⟨d - 1, by omega⟩
    have := sok_6 hk
    rw [L_Sh_crush_75, if_pos (nI_le (by omega) (by omega))]
    exact ⟨dt, rfl, h, hk, Same.rf _ _⟩
  | succ n ih =>
    intro f d b t S dt hf hd hth h hk h2 hl
    obtain ⟨d, rfl⟩ : ∃ e, d = e + 1 := ⟨d - 1, by omega⟩
    have h6 := sok_6 hk
    have h7 := sok_7 hk
    obtain ⟨x1, x2⟩ := x_n hk
    have hdl := drN_lt (sN S 4)
    obtain ⟨y1, y2⟩ := d_draw (κ := κ) (dt := dt) (a := a) (n := sN S 4) (by rw [h.2.1.2.2.2.1, x1, nI_l x2]) x2
    have hS1 : ShD κ (ul dt a 13 (lN (drN (sN S 4)))) a (drw S) := sh_x h (by omega)
    have hk1 := sok_drw hk
    have w1 : Same (shW κ a) dt (ul dt a 13 (lN (drN (sN S 4)))) := (Same.rf _ _).ul (Or.inl ⟨⟨Nat.le_refl _, by omega⟩, by omega⟩)
    have hf1 : f < nF (drw S) := by rw [drw_6]; omega
    have hch : nI (drN (sN S 4) / 65536) - nI (drN (sN S 4) / 65536) / 1000 * 1000 = nI (chN S) := pk_rem (d := 1000) (by omega) (by decide) (by decide)
    obtain ⟨s2, e2, g2, w2⟩ := d_words (κ := κ) (f := f) hS1 hk1 hf1 tg ((drw S) 5) tot
    have hS2 := hS1.fr w2 (fun p j _ _ z => by omega)
    have w2' : Same (shW κ a) dt s2 := w1.tr (w2.mono (fun p j z => Or.inl ⟨⟨by omega, by omega⟩, by omega⟩))
    have hl2 := hl.sh hl6 ha w2'
    obtain ⟨s3, e3, w3⟩ := d_breaks (κ := κ) (a3 := a + 4) hl2 hL.1 hL.2 (by omega) g2
    have hS3 := hS2.fr w3 (fun p j _ _ z => by omega)
    have g3 : ∀ v, v < 8 → gl s3 (a + 4) v = wdS (drw S) f ((drw S) 5) tg tot v := fun v hv => by rw [(w3 _ _ (fun z => by omega)).2.1]; exact g2 v hv
    have w3' : Same (shW κ a) dt s3 := w2'.tr (w3.mono (fun p j z => Or.inr ⟨l, hl6, by omega⟩))
    have hl3 := hl.sh hl6 ha w3'
    have e5 : gi (ul dt a 13 (lN (drN (sN S 4)))) a 10 = (drw S) 5 := hS1.2.1.2.2.2.2.1
    have e4 : gr s2 a 4 = some (LA κ l) := by rw [hS2.2.2.1, show (drw S) 2 = S 2 from rfl, h2]
    rw [L_Sh_crush_75, if_neg (nI_ge (by omega) (by omega)), y1, y2, e5, e2, bnd_t, e4, bnd_t, grd_t (LA_ly hl6), e3, bnd2_t, d_longS hS3 hk1 hf1, bnd_t, hch]
    simp only [jn_e, nI_1]
    have hgl : lngS (drw S) f = lngS S f := lng_x _
    have hsl : shtS (drw S) f = shtS S f := sht_x _
    have hFI := nI_ltk (m := nF S) (k := 200) (y := 200) rfl (by omega) (by decide)
    have hRI := nI_ltk (m := nR S) (k := 400) (y := 400) rfl (by omega) (by decide)
    have e11 : gi s3 a 11 = nI (nF S) := by rw [hS3.2.1.2.2.2.2.2.1, ← drw_6]; exact (sok_6 hk1).1
    have e12 : gi s3 a 12 = nI (nR S) := by rw [hS3.2.1.2.2.2.2.2.2.1, ← drw_7]; exact (sok_7 hk1).1
    have step0 : ∀ t', ∃ dt', L_Sh_crush_75 κ k d a tg tot (nI th) b t' (nI (f + 1)) s3 = k a (crs L K tg tot n (f + 1) b (drw S)).2 (fts L K tg tot n (f + 1) t' (drw S)) dt' ∧ ShD κ dt' a (crs L K tg tot n (f + 1) b (drw S)).1 ∧ SOK (crs L K tg tot n (f + 1) b (drw S)).1 ∧ Same (shW κ a) dt dt' := fun t' => by
      obtain ⟨d4, z1, z2, z3, z4⟩ := ih (f + 1) d b t' (drw S) s3 (by omega) (by omega) (by rw [drw_6]; exact hth) hS3 hk1 h2 hl3
      exact ⟨d4, z1, z2, z3, w3'.tr z4⟩
    by_cases hg : lngS S f < 2
    · have hgo : ¬ gos L K tg tot S f = true := by unfold gos; rw [decide_eq_true hg]; simp
      rw [crs, fts, if_neg hgo, if_neg hgo, if_pos hg, hgl, if_pos hg, if_pos rfl, if_pos rfl]
      exact step0 _
    · rw [hgl, if_neg hg, if_neg (show ¬ (1 : Int32) = 0 by decide), d_shortS hS3 hk1 hf1, bnd_t, hsl, if_neg (show ¬ (1 : Int32) = 0 by decide)]
      have eb : brk (wdS (drw S) f ((drw S) 5) tg tot) L K = brT L K tg tot (drw S) f := rfl
      rw [eb]
      by_cases hb : brT L K tg tot (drw S) f ≤ nI (chN S)
      · have hgo : ¬ gos L K tg tot S f = true := by unfold gos; rw [decide_eq_true hb]; simp
        rw [crs, fts, if_neg hgo, if_neg hgo, if_neg hg, if_pos hb]
        exact step0 _
      · rw [if_neg hb, e11]
        by_cases hF : nF S < 200
        · rw [if_neg (fun z => by have := hFI.2.2.2.1.mp z; omega), e12]
          by_cases hR : nR S < 400
          · have hgo : gos L K tg tot S f = true := by unfold gos; rw [decide_eq_false hg, decide_eq_false hb, decide_eq_true hF, decide_eq_true hR]; rfl
            rw [if_neg (fun z => by have := hRI.2.2.2.1.mp z; omega), crs, fts, if_pos hgo, if_pos hgo, if_neg hg]
            obtain ⟨v1, v2, v3, v4, v5⟩ := way_w hk (f := f) (by omega)
            have hlx : LWD s3 (LA κ ((drw S) 2).toNatClampNeg) L K := by rw [show (drw S) 2 = S 2 from rfl, h2]; exact hl3
            obtain ⟨s5, e5', h5', w5⟩ := d_brk (κ := κ) (f := f) hS3 hk1 hf1 (by rw [drw_6]; exact hF) (by rw [drw_7]; exact hR) v1 ((way_x _).trans v2) (hgl.trans v3) (v5 hg) v4 g3 hlx hL (by rw [show (drw S) 2 = S 2 from rfl, h2]; exact ha)
            rw [e5', bnd_t]
            have hk5 : SOK (brkS (wdS (drw S) f ((drw S) 5) tg tot) L K (drw S) f (wyN S f) (lgN S f)) := by
              have := sok_brkS (w := wdS (drw S) f ((drw S) 5) tg tot) (L := L) (K := K) hk1 hf1 (by rw [drw_6]; exact hF) (by rw [drw_7]; exact hR) (by rw [hgl]; exact hg)
              rw [show wyN (drw S) f = wyN S f from congrArg Int32.toNatClampNeg (way_x _), show lgN (drw S) f = lgN S f from congrArg Int32.toNatClampNeg hgl] at this
              exact this
            obtain ⟨d4, z1, z2, z3, z4⟩ := ih (f + 1) d (b + 1) (t + brT L K tg tot (drw S) f * shtS S f) _ s5 (by omega) (by omega) (by rw [brkS_F (by rw [drw_6]; exact hF), drw_6]; omega) h5' hk5 (by rw [brkS_2]; exact h2) (hl3.sh hl6 ha w5)
            exact ⟨d4, z1, z2, z3, (w3'.tr w5).tr z4⟩
          · have hgo : ¬ gos L K tg tot S f = true := by unfold gos; rw [decide_eq_false hR]; simp
            rw [crs, fts, if_neg hgo, if_neg hgo, if_neg hg, if_pos (hRI.2.2.2.1.mpr (by omega))]
            exact step0 _
        · have hgo : ¬ gos L K tg tot S f = true := by unfold gos; rw [decide_eq_false hF]; simp
          rw [crs, fts, if_neg hgo, if_neg hgo, if_neg hg, if_pos (hFI.2.2.2.1.mpr (by omega))]
          exact step0 _
end Crush
