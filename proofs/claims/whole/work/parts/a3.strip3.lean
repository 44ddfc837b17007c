/-! a strip reduced with one fold turned; the deepest fold: both classes -/
/-- which fold is turned -/
def trn (x : Int32) (F : Nat) (t : Option Nat) : Prop := (x = -1 ∧ t = none) ∨ ∃ u, x = nI u ∧ u < F ∧ t = some u
def flF (t : Option Nat) (f : Nat → Nat) (i : Nat) : Int32 := if t = some i then nI (1 - f i) else nI (f i)
noncomputable def rdK (κ : Ko) : Nat → Int32 → Int32 → AS → Option AS := fun v5 v7 v8 s9 => L_R_reduces_50 κ (fun (v16 : Nat) (s18 : AS) => L_R_reduces_92 κ FU v16 s18) FU v5 v7 v8 (0 : Int32) s9
theorem reduces_e (κ : Ko) (a0 : Nat) (x1 x2 : Int32) (st : AS) : f_R_reduces κ a0 x1 x2 st = grd (vp_in x1 6) (L_R_reduces_17 κ (rdK κ) FU a0 x1 x2 (0 : Int32) (ui (ui st a0 29 (gi st (a0 + 10) (x1 : Int32).toNatClampNeg)) a0 30 0)) := rfl
def cp2 (st : AS) (A : Nat) : AS := cpi (cpi st (A + 1) (A + 3) (min 21 21)) (A + 2) (A + 4) (min 20 20)
theorem reduce_e (κ : Ko) (a0 : Nat) (x1 : Int32) (st : AS) : f_Sp_reduce κ a0 x1 st = L_Sp_reduce_53 κ FU a0 (ui (ui (gput (cp2 st a0) (a0 + 4) 20 x1 ((1 : Int32) - (gat (gi (cp2 st a0) (a0 + 4)) 20 x1))) a0 5 (gi (gput (cp2 st a0) (a0 + 4) 20 x1 ((1 : Int32) - (gat (gi (cp2 st a0) (a0 + 4)) 20 x1))) a0 2)) a0 6 0) := rfl
section Strip3
variable {κ : Ko} {A q k n : Nat} {P f : Nat → Nat} {dt rt : AS}
theorem cp2_gi (p j : Nat) : gi (cp2 dt A) p j = if p = A + 4 ∧ j < 20 then gi dt (A + 2) j else if p = A + 3 ∧ j < 21 then gi dt (A + 1) j else gi dt p j := by
  unfold cp2
  rw [Nat.min_self, Nat.min_self, gi_cpi, gi_cpi, gi_cpi, if_neg (show ¬ (A + 2 = A + 3 ∧ j < 21) by omega)]
theorem fl1 : ∀ m, m < 2 → (1 : Int32) - nI m = nI (1 - m) ∧ nI m ^^^ 1 = nI (1 - m) ∧ nI m ^^^ 0 = nI m := by decide
/-- the class's start -/
theorem d_red0 (h : STD dt A n P f) (hk : stOK n P f) {x : Int32} {t : Option Nat} (hx : trn x n t) : ∃ d1, f_Sp_reduce κ A x dt = L_Sp_reduce_53 κ FU A d1 ∧ SPD d1 A n (fun i => nI (P i)) (flF t f) ∧ gi d1 A 6 = 0 ∧ Same (sprW A) dt d1 := by
  obtain ⟨h1, h2, h3⟩ := h
  obtain ⟨k1, k2, k3⟩ := hk
  have wcp : Same (sprW A) dt (cp2 dt A) := fun p j hp => ⟨by
    rw [cp2_gi, if_neg (fun z => hp (by unfold sprW; omega)), if_neg (fun z => hp (by unfold sprW; omega))], rfl, rfl⟩
  have fin : ∀ s1, Same (sprW A) dt s1 → (∀ i, i ≤ n → gi s1 (A + 3) i = nI (P i)) → (∀ i, i < n → gi s1 (A + 4) i = flF t f i) → SPD (ui (ui s1 A 5 (gi s1 A 2)) A 6 0) A n (fun i => nI (P i)) (flF t f) ∧ gi (ui (ui s1 A 5 (gi s1 A 2)) A 6 0) A 6 = 0 ∧ Same (sprW A) dt (ui (ui s1 A 5 (gi s1 A 2)) A 6 0) := fun s1 w g3 g4 => by
    have e2 : gi s1 A 2 = nI n := by rw [(w A 2 (fun z => by unfold sprW at z; omega)).1]; exact h1
    rw [e2]
    refine ⟨⟨k1, by rw [gi_ui, if_neg (by omega), gi_ui, if_pos ⟨rfl, rfl⟩], fun i hi => by rw [gi_ui, if_neg (by omega), gi_ui, if_neg (by omega)]; exact g3 i hi, fun i hi => by rw [gi_ui, if_neg (by omega), gi_ui, if_neg (by omega)]; exact g4 i hi⟩, by rw [gi_ui, if_pos ⟨rfl, rfl⟩], (w.ui (Or.inr (Or.inr ⟨rfl, Or.inl rfl⟩))).ui (Or.inr (Or.inr ⟨rfl, Or.inr rfl⟩))⟩
  rw [reduce_e]
  rcases hx with ⟨rfl, rfl⟩ | ⟨u, rfl, hu, rfl⟩
  · have eg : ∀ v, gput (cp2 dt A) (A + 4) 20 (-1) v = cp2 dt A := fun v => by
      unfold gput
      rw [if_pos (show (-1 : Int32) < 0 by decide)]
    rw [eg]
    obtain ⟨y1, y2, y3⟩ := fin (cp2 dt A) wcp (fun i hi => by rw [cp2_gi, if_neg (by omega), if_pos ⟨rfl, by omega⟩]; exact h2 i hi) (fun i hi => by
      rw [cp2_gi, if_pos ⟨rfl, by omega⟩, h3 i hi]
      unfold flF
      rw [if_neg (fun z => by cases z)])
    exact ⟨_, rfl, y1, y2, y3⟩
  · rw [gat_n (j := u) rfl (by omega) (by decide), gput_n (j := u) rfl (by omega) (by decide), cp2_gi, if_pos ⟨rfl, by omega⟩, h3 u hu, (fl1 (f u) (k3 u hu)).1]
    obtain ⟨y1, y2, y3⟩ := fin (ui (cp2 dt A) (A + 4) u (nI (1 - f u))) (wcp.ui (Or.inr (Or.inl rfl))) (fun i hi => by rw [gi_ui, if_neg (by omega), cp2_gi, if_neg (by omega), if_pos ⟨rfl, by omega⟩]; exact h2 i hi) (fun i hi => by
      rw [gi_ui]
      unfold flF
      by_cases e : i = u
      · rw [if_pos ⟨rfl, e⟩, if_pos (by rw [e]), e]
      · rw [if_neg (fun z => e z.2), if_neg (fun z => e (Option.some.inj z).symm), cp2_gi, if_pos ⟨rfl, by omega⟩]; exact h3 i hi)
    exact ⟨_, rfl, y1, y2, y3⟩
/-- the reference's start -/
theorem r_red17 (hq : STQ rt q k n P f) (hk : stOK n P f) (hk6 : k < 6) (x : Int32) : ∀ m i d r1, i + m = n + 1 → m < d → Same (sqW q) rt r1 → gi r1 q 29 = nI n → (∀ j, j < i → gi r1 (q + 17) j = nI (P j)) →
    ∃ r2, L_R_reduces_17 κ (rdK κ) d q (nI k) x (nI i) r1 = rdK κ q (nI k) x r2 ∧ (∀ j, j ≤ n → gi r2 (q + 17) j = nI (P j)) ∧ Same (fun p _ => p = q + 17) r1 r2
  | 0, i, d, r1, hi, hd, hw, h29, hP => by
    obtain ⟨d, rfl⟩ : ∃ z, d = z + 1 := ⟨d - 1, by omega⟩
    have := hk.1
    rw [L_R_reduces_17, h29, if_pos ((nI_ltI (by omega) (by omega)).mpr (by omega))]
    exact ⟨r1, rfl, fun j hj => hP j (by omega), Same.rf _ _⟩
  | m + 1, i, d, r1, hi, hd, hw, h29, hP => by
    obtain ⟨d, rfl⟩ : ∃ z, d = z + 1 := ⟨d - 1, by omega⟩
    have := hk.1
    have e8 : gi r1 (q + 8) (21 * k + i) = nI (P i) := by rw [(hw _ _ (fun z => by unfold sqW at z; omega)).1]; exact hq.2.1 i (by omega)
    rw [L_R_reduces_17, h29, if_neg (fun z => by have := (nI_ltI (by omega) (by omega)).mp z; omega), show (21 : Int32) = nI 21 from rfl, nI_mul, nI_add, grd_t (vp_in_nI (by omega) (by decide)), grd_t (vp_in_nI (by omega) (by decide)), nI_clamp (by omega), nI_clamp (by omega), e8, nI_1]
    obtain ⟨r2, z1, z2, z3⟩ := r_red17 hq hk hk6 x m (i + 1) d (ui r1 (q + 17) i (nI (P i))) (by omega) (by omega) (hw.ui (Or.inl rfl)) (by rw [gi_ui, if_neg (by omega)]; exact h29) (fun j hj => by
      rw [gi_ui]
      by_cases e : j = i
      · rw [if_pos ⟨rfl, e⟩, e]
      · rw [if_neg (fun z => e z.2)]; exact hP j (by omega))
    exact ⟨r2, z1, z2, ((Same.rf (fun p _ => p = q + 17) r1).ui rfl).tr z3⟩
theorem r_red50 (hq : STQ rt q k n P f) (hk : stOK n P f) (hk6 : k < 6) {x : Int32} {t : Option Nat} (hx : trn x n t) (kk : Nat → AS → Option AS) : ∀ m i d r1, i + m = n → m < d → Same (sqW q) rt r1 → gi r1 q 29 = nI n → (∀ j, j < i → gi r1 (q + 18) j = flF t f j) →
    ∃ r2, L_R_reduces_50 κ kk d q (nI k) x (nI i) r1 = kk q r2 ∧ (∀ j, j < n → gi r2 (q + 18) j = flF t f j) ∧ Same (fun p _ => p = q + 18) r1 r2
  | 0, i, d, r1, hi, hd, hw, h29, hP => by
    obtain ⟨d, rfl⟩ : ∃ z, d = z + 1 := ⟨d - 1, by omega⟩
    have := hk.1
    rw [L_R_reduces_50, h29, if_pos (nI_le (by omega) (by omega))]
    exact ⟨r1, rfl, fun j hj => hP j (by omega), Same.rf _ _⟩
  | m + 1, i, d, r1, hi, hd, hw, h29, hP => by
    obtain ⟨d, rfl⟩ : ∃ z, d = z + 1 := ⟨d - 1, by omega⟩
    have := hk.1
    have hfi := hk.2.2 i (by omega)
    have e9 : gi r1 (q + 9) (20 * k + i) = nI (f i) := by rw [(hw _ _ (fun z => by unfold sqW at z; omega)).1]; exact hq.2.2 i (by omega)
    have val : ∀ v : Int32, v = flF t f i → ∃ r2, L_R_reduces_50 κ kk d q (nI k) x (nI i + 1) (ui r1 (q + 18) i v) = kk q r2 ∧ (∀ j, j < n → gi r2 (q + 18) j = flF t f j) ∧ Same (fun p _ => p = q + 18) r1 r2 := fun v hv => by
      obtain ⟨r2, z1, z2, z3⟩ := r_red50 hq hk hk6 hx kk m (i + 1) d (ui r1 (q + 18) i v) (by omega) (by omega) (hw.ui (Or.inr (Or.inl rfl))) (by rw [gi_ui, if_neg (by omega)]; exact h29) (fun j hj => by
        rw [gi_ui]
        by_cases e : j = i
        · rw [if_pos ⟨rfl, e⟩, e]; exact hv
        · rw [if_neg (fun z => e z.2)]; exact hP j (by omega))
      rw [nI_1]
      exact ⟨r2, z1, z2, ((Same.rf (fun p _ => p = q + 18) r1).ui rfl).tr z3⟩
    rw [L_R_reduces_50, h29, if_neg (nI_ge (by omega) (by omega))]
    simp only [jn_e]
    rw [show (20 : Int32) = nI 20 from rfl, nI_mul, nI_add, grd_t (vp_in_nI (by omega) (by decide)), grd_t (vp_in_nI (by omega) (by decide)), grd_t (vp_in_nI (by omega) (by decide)), nI_clamp (by omega), nI_clamp (by omega), e9]
    rcases hx with ⟨rfl, rfl⟩ | ⟨u, rfl, hu, rfl⟩
    · rw [if_neg (nI_ne1 (by omega)), (fl1 (f i) hfi).2.2]
      exact val _ (by unfold flF; rw [if_neg (fun z => by cases z)])
    · by_cases e : i = u
      · rw [if_pos (by rw [e]), (fl1 (f i) hfi).2.1]
        exact val _ (by unfold flF; rw [if_pos (by rw [e])])
      · rw [if_neg (fun z => e ((nI_eq (by omega) (by omega)).mp z)), (fl1 (f i) hfi).2.2]
        exact val _ (by unfold flF; rw [if_neg (fun z => e (Option.some.inj z).symm)])
theorem q_reduce (h : STD dt A n P f) (hq : STQ rt q k n P f) (hk : stOK n P f) (hk6 : k < 6) {x : Int32} {t : Option Nat} (hx : trn x n t) :
    ∃ (l : Nat) (P' F' : Nat → Int32) (dt' rt' : AS) (m : Nat), f_Sp_reduce κ A x dt = some dt' ∧ f_R_reduces κ q (nI k) x rt = some rt' ∧ SPD dt' A l P' F' ∧ SPQ rt' q l P' F' ∧ gi dt' A 6 = nI m ∧ gi rt' q 30 = nI m ∧ Same (sprW A) dt dt' ∧ Same (sqW q) rt rt' := by
  have hn := hk.1
  obtain ⟨d1, a1, a2, a3, a4⟩ := d_red0 (κ := κ) h hk hx
  have w0 : Same (sqW q) rt (ui (ui rt q 29 (nI n)) q 30 0) := ((Same.rf _ rt).ui (Or.inr (Or.inr ⟨rfl, Or.inl rfl⟩))).ui (Or.inr (Or.inr ⟨rfl, Or.inr rfl⟩))
  obtain ⟨r1, b1', b2, b3⟩ := r_red17 (κ := κ) hq hk hk6 x (n + 1) 0 FU (ui (ui rt q 29 (nI n)) q 30 0) (by omega) (FUn (by omega)) w0 (by rw [gi_ui, if_neg (by omega), gi_ui, if_pos ⟨rfl, rfl⟩]) (fun j hj => absurd hj (Nat.not_lt_zero _))
  have w1 : Same (sqW q) rt r1 := w0.tr (b3.mono (fun p j z => Or.inl z))
  have h29 : gi r1 q 29 = nI n := by rw [(b3 q 29 (by omega)).1, gi_ui, if_neg (by omega), gi_ui, if_pos ⟨rfl, rfl⟩]
  obtain ⟨r2, c1, c2, c3⟩ := r_red50 (κ := κ) hq hk hk6 hx (fun (v16 : Nat) (s18 : AS) => L_R_reduces_92 κ FU v16 s18) n 0 FU r1 (by omega) (FUn (by omega)) w1 h29 (fun j hj => absurd hj (Nat.not_lt_zero _))
  have hQ : SPQ r2 q n (fun i => nI (P i)) (flF t f) := ⟨hn, by rw [(c3 q 29 (by omega)).1]; exact h29, fun i hi => by rw [(c3 (q + 17) i (by omega)).1]; exact b2 i hi, c2⟩
  have h30 : gi r2 q 30 = nI 0 := by rw [(c3 q 30 (by omega)).1, (b3 q 30 (by omega)).1, gi_ui, if_pos ⟨rfl, rfl⟩]; rfl
  obtain ⟨l, P', F', d3, r3, m, z1, z2, z3, z4, z5, z6, z7, z8⟩ := q_redL (κ := κ) n n _ _ d1 r2 FU FU 0 (Nat.le_refl _) (by omega) (FUn (by omega)) (FUn (by omega)) a2 hQ a3 h30
  refine ⟨l, P', F', d3, r3, m, a1.trans z1, ?_, z3, z4, z5, z6, a4.tr z7, (w1.tr (c3.mono (fun p j z => Or.inr (Or.inl z)))).tr z8⟩
  rw [reduces_e, grd_t (vp_in_nI hk6 (by decide)), nI_clamp (by omega), hq.1]
  refine b1'.trans ?_
  unfold rdK
  exact c1.trans z2
theorem STD.fr {dt' : AS} (h : STD dt A n P f) (hw : Same (sprW A) dt dt') : STD dt' A n P f := ⟨by rw [(hw A 2 (fun z => by unfold sprW at z; omega)).1]; exact h.1, fun i hi => by rw [(hw _ _ (fun z => by unfold sprW at z; omega)).1]; exact h.2.1 i hi, fun i hi => by rw [(hw _ _ (fun z => by unfold sprW at z; omega)).1]; exact h.2.2 i hi⟩
theorem STQ.fr {rt' : AS} (h : STQ rt q k n P f) (hw : Same (sqW q) rt rt') : STQ rt' q k n P f := ⟨by rw [(hw _ _ (fun z => by unfold sqW at z; omega)).1]; exact h.1, fun i hi => by rw [(hw _ _ (fun z => by unfold sqW at z; omega)).1]; exact h.2.1 i hi, fun i hi => by rw [(hw _ _ (fun z => by unfold sqW at z; omega)).1]; exact h.2.2 i hi⟩
/-- best so far -/
def bestR (i : Nat) (b c b' c' : Int32) : Prop := (i = 0 ∧ b = -1 ∧ c = 2147483647 ∧ b' = -1) ∨ ∃ u m, m ≤ 200 ∧ u < i ∧ b = nI u ∧ b' = nI u ∧ c = nI m ∧ c' = nI m
theorem bestR.step {i m : Nat} {b c b' c' : Int32} (h : bestR i b c b' c') (hm : m ≤ 200) (hi : i < 1000) : bestR (i + 1) (if c ≤ nI m then b else nI i) (if c ≤ nI m then c else nI m) (if b' < 0 then nI i else if nI m < c' then nI i else b') (if b' < 0 then nI m else if nI m < c' then nI m else c') := by
  rcases h with ⟨h1, rfl, rfl, rfl⟩ | ⟨u, m', hm', hu, rfl, rfl, rfl, rfl⟩
  · have : ¬ (2147483647 : Int32) ≤ nI m := nI_ge (b := 2147483647) (by omega) (by decide)
    rw [if_neg this, if_neg this, if_pos (show (-1 : Int32) < 0 by decide), if_pos (show (-1 : Int32) < 0 by decide)]
    exact Or.inr ⟨i, m, hm, by omega, rfl, rfl, rfl, rfl⟩
  · have hn : ¬ nI u < 0 := fun z => by have := (nI_ltk (m := u) (k := 0) (y := 0) rfl (by omega) (by decide)).1.mp z; omega
    rw [if_neg hn, if_neg hn]
    by_cases e : m' ≤ m
    · rw [if_pos (nI_le e (by omega)), if_pos (nI_le e (by omega)), if_neg (fun z => by have := (nI_ltI (by omega) (by omega)).mp z; omega), if_neg (fun z => by have := (nI_ltI (by omega) (by omega)).mp z; omega)]
      exact Or.inr ⟨u, m', hm', by omega, rfl, rfl, rfl, rfl⟩
    · have l1 : nI m < nI m' := (nI_ltI (by omega) (by omega)).mpr (by omega)
      rw [if_neg (nI_ge (by omega) (by omega)), if_neg (nI_ge (by omega) (by omega)), if_pos l1, if_pos l1]
      exact Or.inr ⟨i, m, hm, by omega, rfl, rfl, rfl, rfl⟩
theorem q_deepL (hk : stOK n P f) (hk6 : k < 6) : ∀ m i d d' b c b' c' dt rt, i + m = n → m < d → m < d' → STD dt A n P f → STQ rt q k n P f → bestR i b c b' c' →
    ∃ v dt' rt', L_Sp_deepestFold_7 κ d A b c (nI i) dt = some (v, dt') ∧ L_R_deepestOf_7 κ d' q (nI k) b' c' (nI i) rt = some (v, rt') ∧ Same (sprW A) dt dt' ∧ Same (sqW q) rt rt'
  | 0, i, d, d', b, c, b', c', dt, rt, hi, hd, hd', h, hq, hb => by
    obtain ⟨d, rfl⟩ : ∃ z, d = z + 1 := ⟨d - 1, by omega⟩
    obtain ⟨d', rfl⟩ : ∃ z, d' = z + 1 := ⟨d' - 1, by omega⟩
    have := hk.1
    have eb : b = b' := by
      rcases hb with ⟨-, rfl, -, rfl⟩ | ⟨u, m, -, -, rfl, rfl, -, -⟩ <;> rfl
    rw [L_Sp_deepestFold_7, L_R_deepestOf_7, h.1, if_pos (nI_le (by omega) (by omega)), grd_t (vp_in_nI hk6 (by decide)), nI_clamp (by omega), hq.1, if_pos (nI_le (by omega) (by omega)), eb]
    exact ⟨b', dt, rt, rfl, rfl, Same.rf _ _, Same.rf _ _⟩
  | m + 1, i, d, d', b, c, b', c', dt, rt, hi, hd, hd', h, hq, hb => by
    obtain ⟨d, rfl⟩ : ∃ z, d = z + 1 := ⟨d - 1, by omega⟩
    obtain ⟨d', rfl⟩ : ∃ z, d' = z + 1 := ⟨d' - 1, by omega⟩
    have hn := hk.1
    obtain ⟨l, P', F', d2, r2, t', z1, z2, z3, z4, z5, z6, z7, z8⟩ := q_reduce (κ := κ) h hq hk hk6 (x := nI i) (t := some i) (Or.inr ⟨i, rfl, by omega, rfl⟩)
    have hst := hb.step (m := l) (by have := z3.1; omega) (by omega)
    obtain ⟨v, d3, r3, y1, y2, y3, y4⟩ := q_deepL hk hk6 m (i + 1) d d' _ _ _ _ d2 r2 (by omega) (by omega) (by omega) (h.fr z7) (hq.fr z8) hst
    refine ⟨v, d3, r3, ?_, ?_, z7.tr y3, z8.tr y4⟩
    · rw [L_Sp_deepestFold_7, h.1, if_neg (nI_ge (by omega) (by omega)), z1, bnd_t, z3.2.1, nI_1]
      exact y1
    · rw [L_R_deepestOf_7, grd_t (vp_in_nI hk6 (by decide)), nI_clamp (by omega), hq.1, if_neg (nI_ge (by omega) (by omega)), z2, bnd_t, jn_e, z4.2.1, nI_1]
      by_cases e1 : b' < 0
      · rw [if_pos e1] at y2 ⊢
        rw [if_pos e1] at y2
        exact y2
      · rw [if_neg e1] at y2 ⊢
        rw [if_neg e1] at y2
        by_cases e2 : nI l < c'
        · rw [if_pos e2] at y2 ⊢
          rw [if_pos e2] at y2
          exact y2
        · rw [if_neg e2] at y2 ⊢
          rw [if_neg e2] at y2
          exact y2
theorem q_deep (h : STD dt A n P f) (hq : STQ rt q k n P f) (hk : stOK n P f) (hk6 : k < 6) : ∃ v dt' rt', f_Sp_deepestFold κ A dt = some (v, dt') ∧ f_R_deepestOf κ q (nI k) rt = some (v, rt') ∧ Same (sprW A) dt dt' ∧ Same (sqW q) rt rt' :=
  q_deepL hk hk6 n 0 FU FU (-1) 2147483647 (-1) 0 dt rt (by omega) (FUn (by have := hk.1; omega)) (FUn (by have := hk.1; omega)) h hq (Or.inl ⟨rfl, rfl, rfl, rfl⟩)
end Strip3
