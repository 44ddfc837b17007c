/-! a walk from facet to facet: both classes -/
def dv : Option Nat → Int32
  | none => -1
  | some d => nI d
def updD (D : Nat → Option Nat) (g d : Nat) : Nat → Option Nat := fun k => if k = g then some d else D k
/-- how far, and in which order -/
def BFP (n m : Nat) (D : Nat → Option Nat) (Qu : Nat → Nat) : Prop := (∀ i, i < m → Qu i < n ∧ D (Qu i) ≠ none) ∧ cnt (fun f => (D f).isSome) n = m ∧ ∀ f d, D f = some d → d < m
def BFR (dt rt : AS) (Z q n m : Nat) (D : Nat → Option Nat) (Qu : Nat → Nat) : Prop := (∀ f, f < n → gi dt (Z + 3) f = dv (D f) ∧ gi rt (q + 19) f = dv (D f)) ∧ ∀ i, i < m → gi dt (Z + 4) i = nI (Qu i) ∧ gi rt (q + 20) i = nI (Qu i)
theorem BFP.le {n m : Nat} {D : Nat → Option Nat} {Qu : Nat → Nat} (h : BFP n m D Qu) : m ≤ n := by rw [← h.2.1]; exact cnt_le _ _
theorem cnt_f0 : ∀ n, cnt (fun _ => false) n = 0
  | 0 => rfl
  | n + 1 => by rw [cnt_s, cnt_f0 n]; rfl
theorem BFP.lt {n m g : Nat} {D : Nat → Option Nat} {Qu : Nat → Nat} (h : BFP n m D Qu) (hg : g < n) (hD : D g = none) : m < n := by
  have h1 := cnt_add_le (P := fun f => (D f).isSome) (Q := fun f => decide (f = g)) (R := fun _ => true) (T := fun _ => false) (U := fun _ => false) (n := n) (fun i hi => by
    show b1 ((D i).isSome) + b1 (decide (i = g)) ≤ b1 true + (b1 false + b1 false)
    by_cases e : i = g
    · rw [e, hD, decide_eq_true rfl]; decide
    · rw [decide_eq_false e]; cases (D i).isSome <;> decide)
  rw [cnt_one hg, h.2.1] at h1
  have h2 := cnt_le (fun _ => true) n
  rw [cnt_f0] at h1
  omega
theorem BFP.step {n m g d : Nat} {D : Nat → Option Nat} {Qu : Nat → Nat} (h : BFP n m D Qu) (hg : g < n) (hD : D g = none) (hd : d < m) : BFP n (m + 1) (updD D g (d + 1)) (updN Qu m g) := by
  refine ⟨fun i hi => ?_, ?_, fun f e hf => ?_⟩
  · by_cases e : i = m
    · rw [e, updN_eq]
      exact ⟨hg, by unfold updD; rw [if_pos rfl]; exact fun z => by cases z⟩
    · rw [updN_ne e]
      obtain ⟨h1, h2⟩ := h.1 i (by omega)
      refine ⟨h1, ?_⟩
      unfold updD
      rw [if_neg (fun z => h2 (by rw [z]; exact hD))]
      exact h2
  · have := sumF_upd (f := fun i => if (D i).isSome = true then 1 else 0) (g := fun i => if (updD D g (d + 1) i).isSome = true then 1 else 0) (y := g) (d := 1) (n := n) hg (fun i hi hne => by unfold updD; rw [if_neg hne]) (by unfold updD; rw [if_pos rfl, hD]; rfl)
    rw [cnt_sum, ← this, ← cnt_sum, h.2.1]
  · unfold updD at hf
    by_cases e2 : f = g
    · rw [if_pos e2] at hf
      have := Option.some.inj hf
      omega
    · rw [if_neg e2] at hf
      have := h.2.2 f e hf
      omega
theorem ui2a (st : AS) (a b i j f : Nat) (v w : Int32) (h : a ≠ b) : gi (ui (ui st a i v) b j w) a f = if f = i then v else gi st a f := by
  rw [gi_ui, if_neg (fun z => h z.1), gi_ui]
  by_cases e : f = i
  · rw [if_pos ⟨rfl, e⟩, if_pos e]
  · rw [if_neg (fun z => e z.2), if_neg e]
theorem ui2b (st : AS) (a b i j f : Nat) (v w : Int32) (h : a ≠ b) : gi (ui (ui st a i v) b j w) b f = if f = j then w else gi st b f := by
  rw [gi_ui]
  by_cases e : f = j
  · rw [if_pos ⟨rfl, e⟩, if_pos e]
  · rw [if_neg (fun z => e z.2), if_neg e, gi_ui, if_neg (fun z => h z.1.symm)]
theorem BFR.step {dt rt : AS} {Z q n m g d : Nat} {D : Nat → Option Nat} {Qu : Nat → Nat} (h : BFR dt rt Z q n m D Qu) : BFR (ui (ui dt (Z + 3) g (nI (d + 1))) (Z + 4) m (nI g)) (ui (ui rt (q + 19) g (nI (d + 1))) (q + 20) m (nI g)) Z q n (m + 1) (updD D g (d + 1)) (updN Qu m g) := by
  refine ⟨fun f hf => ?_, fun i hi => ?_⟩
  · rw [ui2a _ _ _ _ _ _ _ _ (show Z + 3 ≠ Z + 4 by omega), ui2a _ _ _ _ _ _ _ _ (show q + 19 ≠ q + 20 by omega)]
    unfold updD
    by_cases e : f = g
    · rw [if_pos e, if_pos e, if_pos e]; exact ⟨rfl, rfl⟩
    · rw [if_neg e, if_neg e, if_neg e]; exact h.1 f hf
  · rw [ui2b _ _ _ _ _ _ _ _ (show Z + 3 ≠ Z + 4 by omega), ui2b _ _ _ _ _ _ _ _ (show q + 19 ≠ q + 20 by omega)]
    by_cases e : i = m
    · rw [if_pos e, if_pos e, e, updN_eq]; exact ⟨rfl, rfl⟩
    · rw [if_neg e, if_neg e, updN_ne e]; exact h.2 i (by omega)
def wkD (Z p : Nat) : Prop := p = Z + 3 ∨ p = Z + 4
def wkQ (q p : Nat) : Prop := p = q + 19 ∨ p = q + 20
theorem NB.fr {dt dt' : AS} {Z : Nat} {S : Nat → Int32} (h : NB dt Z S) (hw : Same (fun p _ => wkD Z p) dt dt') : NB dt' Z S :=
  ⟨by rw [(hw Z 4 (fun z => by unfold wkD at z; omega)).1]; exact h.1, fun f hf => by rw [(hw _ _ (fun z => by unfold wkD at z; omega)).1]; exact h.2.1 f hf, fun f hf g hg ha => by rw [(hw _ _ (fun z => by unfold wkD at z; omega)).1]; exact h.2.2 f hf g hg ha⟩
section Walk
variable {κ : Ko} {q s Z : Nat} {S : Nat → Int32}
theorem q_nb (hk : SOK S) (hs : s < 7) {f dh i : Nat} (hf : f < nF S) (k : Nat → Int32 → Int32 → Int32 → AS → Option (Int32 × AS)) (k' : Nat → Int32 → Int32 → Int32 → Int32 → AS → Option (Int32 × AS)) : ∀ n g d d' m D Qu dt rt, g + n = nF S → n < d → n < d' → NB dt Z S → rw_ rt q s = S → BFP (nF S) m D Qu → BFR dt rt Z q (nF S) m D Qu → i < m → Qu i = f → D f = some dh →
    ∃ m' D' Qu' dt' rt', L_Nb_walkFrom_96 κ k d Z (nI m) (nI dh) (nI i) (nI f) (nI (stN S f + cnt (adj S f) g)) dt = k Z (nI m') (nI dh) (nI i) dt' ∧ L_R_walks_61 κ k' d' q (nI s) (nI (nF S)) (nI m) (nI i) (nI g) rt = k' q (nI s) (nI (nF S)) (nI m') (nI i) rt' ∧
      BFP (nF S) m' D' Qu' ∧ BFR dt' rt' Z q (nF S) m' D' Qu' ∧ m ≤ m' ∧ Qu' i = f ∧ D' f = some dh ∧ Same (fun p _ => wkD Z p) dt dt' ∧ Same (fun p _ => wkQ q p) rt rt'
  | 0, g, d, d', m, D, Qu, dt, rt, hg, hd, hd', hN, hR, hP, hB, him, hQ, hDf => by
    obtain ⟨d, rfl⟩ : ∃ z, d = z + 1 := ⟨d - 1, by omega⟩
    obtain ⟨d', rfl⟩ : ∃ z, d' = z + 1 := ⟨d' - 1, by omega⟩
    have hF := sok_6 hk
    have e1 : gat (gi dt (Z + 1)) 201 (nI f + 1) = nI (stN S (f + 1)) := by
      rw [nI_1, gat_n (j := f + 1) rfl (by omega) (by decide)]; exact hN.2.1 (f + 1) (by omega)
    have hst := stN_le hk (f := f + 1) (by omega)
    rw [L_Nb_walkFrom_96, L_R_walks_61, e1, show g = nF S by omega, ← stN_s, if_pos (nI_le (Nat.le_refl _) (by omega)), if_pos (nI_le (Nat.le_refl _) (by omega))]
    exact ⟨m, D, Qu, dt, rt, rfl, rfl, hP, hB, Nat.le_refl _, hQ, hDf, Same.rf _ _, Same.rf _ _⟩
  | n + 1, g, d, d', m, D, Qu, dt, rt, hg, hd, hd', hN, hR, hP, hB, him, hQ, hDf => by
    obtain ⟨d, rfl⟩ : ∃ z, d = z + 1 := ⟨d - 1, by omega⟩
    obtain ⟨d', rfl⟩ : ∃ z, d' = z + 1 := ⟨d' - 1, by omega⟩
    have hF := sok_6 hk
    have hg' : g < nF S := by omega
    have hm := hP.le
    have hdm := hP.2.2 f dh hDf
    obtain ⟨b1, b2⟩ := hB.1 g hg'
    obtain ⟨o1, o2⟩ := hB.2 i him
    rw [hQ] at o1 o2
    have hst := stN_le hk (f := f + 1) (by omega)
    have e1 : gat (gi dt (Z + 1)) 201 (nI f + 1) = nI (stN S (f + 1)) := by
      rw [nI_1, gat_n (j := f + 1) rfl (by omega) (by decide)]; exact hN.2.1 (f + 1) (by omega)
    have dneg : ∀ {e}, D g = some e → (0 : Int32) ≤ dv (D g) ∧ dv (D g) ≠ -1 := fun {e} he => by
      have := hP.2.2 g e he
      rw [he]
      exact ⟨nI_ge0 (by omega), nI_ne1 (by omega)⟩
    have fneg : D g = none → ¬ (0 : Int32) ≤ dv (D g) := fun he => by rw [he]; decide
    by_cases ha : adj S f g = true
    · -- a neighbour
      have hpos := pos_lt (S := S) (f := f + 1) (by omega) hg' ha
      have ec : cnt (adj S f) (g + 1) = cnt (adj S f) g + 1 := by rw [cnt_s, if_pos ha]
      have hb : bsd S f g = true := by unfold adj at ha; exact (Bool.and_eq_true_iff.mp ha).2
      have oth : gat (gi dt (Z + 2)) 1200 (nI (stN S f + cnt (adj S f) g)) = nI g := by
        rw [gat_n (j := stN S f + cnt (adj S f) g) rfl (by omega) (by decide)]; exact hN.2.2 f hf g hg' ha
      rw [L_Nb_walkFrom_96, L_R_walks_61, e1, if_neg (nI_ge hpos (by omega)), if_neg (nI_ge hg' (by omega)), oth, gat_n (j := g) rfl (by omega) (by decide), b1, grd_t (vp_in_nI (by omega) (by decide)), nI_clamp (by omega), b2, nI_1, nI_1, nI_1, nI_1]
      cases hDg : D g with
      | some e =>
        obtain ⟨x1, x2⟩ := dneg hDg
        rw [hDg] at x1 x2
        rw [if_neg x2, if_pos x1]
        have := q_nb hk hs hf k k' n (g + 1) d d' m D Qu dt rt (by omega) (by omega) (by omega) hN hR hP hB him hQ hDf
        rw [ec, ← Nat.add_assoc] at this
        exact this
      | none =>
        have hmn := hP.lt hg' hDg
        rw [if_pos (show dv none = -1 from rfl), if_neg (show ¬ (0 : Int32) ≤ dv none by decide), grd_t (vp_in_nI (by omega) (by decide)), nI_clamp (by omega), o2, r_bsdS hR hk hs hf hg', if_pos hb, bnd_t, if_neg (show ¬ (1 : Int32) = 0 by decide), grd_t (vp_in_nI (by omega) (by decide)), grd_t (vp_in_nI (by omega) (by decide)), grd_t (vp_in_nI (by omega) (by decide)), grd_t (vp_in_nI (by omega) (by decide)), nI_clamp (by omega), nI_clamp (by omega), (hB.1 f hf).2, hDf, show dv (some dh) = nI dh from rfl, nI_1, gput_n (j := g) rfl (by omega) (by decide), gput_n (j := m) rfl (by omega) (by decide)]
        have w1 : Same (fun p _ => wkD Z p) dt (ui (ui dt (Z + 3) g (nI (dh + 1))) (Z + 4) m (nI g)) := ((Same.rf _ dt).ui (Or.inl rfl)).ui (Or.inr rfl)
        have w2 : Same (fun p _ => wkQ q p) rt (ui (ui rt (q + 19) g (nI (dh + 1))) (q + 20) m (nI g)) := ((Same.rf _ rt).ui (Or.inl rfl)).ui (Or.inr rfl)
        have hfg : f ≠ g := fun z => by rw [z, hDg] at hDf; cases hDf
        obtain ⟨m', D', Qu', d2, r2, z1, z2, z3, z4, z5, z6, z7, z8, z9⟩ := q_nb hk hs hf k k' n (g + 1) d d' (m + 1) (updD D g (dh + 1)) (updN Qu m g) _ _ (by omega) (by omega) (by omega) (hN.fr w1) (rw_fr hR w2 (fun j z => by unfold wkQ at z; omega)) (hP.step hg' hDg hdm) hB.step (by omega) ((updN_ne (N := Qu) (p := m) (v := g) (k := i) (by omega)).trans hQ) (by unfold updD; rw [if_neg hfg]; exact hDf)
        rw [ec, ← Nat.add_assoc] at z1
        exact ⟨m', D', Qu', d2, r2, z1, z2, z3, z4, by omega, z6, z7, w1.tr z8, w2.tr z9⟩
    · -- none
      have ec : cnt (adj S f) (g + 1) = cnt (adj S f) g := by rw [cnt_s, if_neg ha]; rfl
      obtain ⟨m', D', Qu', d2, r2, z1, z2, z3⟩ := q_nb hk hs hf k k' n (g + 1) (d + 1) d' m D Qu dt rt (by omega) (by omega) (by omega) hN hR hP hB him hQ hDf
      rw [ec] at z1
      refine ⟨m', D', Qu', d2, r2, z1, ?_, z3⟩
      rw [L_R_walks_61, if_neg (nI_ge hg' (by omega)), grd_t (vp_in_nI (by omega) (by decide)), nI_clamp (by omega), b2, nI_1]
      cases hDg : D g with
      | some e =>
        obtain ⟨x1, x2⟩ := dneg hDg
        rw [hDg] at x1
        rw [if_pos x1]
        exact z2
      | none =>
        have hfg : g ≠ f := fun z => by rw [← z, hDg] at hDf; cases hDf
        have hb : bsd S f g = false := by
          unfold adj at ha
          rw [decide_eq_false hfg] at ha
          revert ha
          cases bsd S f g <;> decide
        rw [if_neg (show ¬ (0 : Int32) ≤ dv none by decide), grd_t (vp_in_nI (by omega) (by decide)), nI_clamp (by omega), o2, r_bsdS hR hk hs hf hg', if_neg (show ¬ bsd S f g = true by rw [hb]; decide), bnd_t, if_pos rfl]
        exact z2
end Walk
