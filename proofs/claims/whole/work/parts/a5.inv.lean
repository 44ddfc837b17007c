/-! what holds between two calls, of both classes -/
def HA (κ : Ko) (i : Nat) : Nat := kB (kt κ) + 23 + 5 * i
def PA (κ : Ko) (k : Nat) : Nat := kB (kt κ) + 232 + 32 * k
def IA (κ : Ko) (k i : Nat) : Nat := kB (kt κ) + 234 + 32 * k + 5 * i
def QQ (κ : Ko) : Nat := kB (kt κ) + 360
/-- scratch of the class -/
def scD (κ : Ko) (p j : Nat) : Prop := kB (kt κ) ≤ p ∧ ((kB (kt κ) + 54 ≤ p ∧ p < kB (kt κ) + 70 ∧ p ≠ kB (kt κ) + 63) ∨ (kB (kt κ) + 23 ≤ p ∧ p < kB (kt κ) + 53 ∧ (p - kB (kt κ) - 23) % 5 = 4) ∨
  (kB (kt κ) + 70 ≤ p ∧ p < kB (kt κ) + 232 ∧ ((p - kB (kt κ) - 70) % 27 = 4 ∨ (p - kB (kt κ) - 70) % 27 = 18 ∨ (p - kB (kt κ) - 70) % 27 = 25 ∨ (p - kB (kt κ) - 70) % 27 = 26 ∨ ((p - kB (kt κ) - 70) % 27 = 22 ∧ (j = 5 ∨ j = 6)))))
def rsD (κ : Ko) (p j : Nat) : Prop := scD κ p j ∨ (kB (kt κ) + 23 ≤ p ∧ p < kB (kt κ) + 53)
/-- scratch of the reference -/
def scQ (κ : Ko) (p j : Nat) : Prop := p = QQ κ + 12 ∨ p = QQ κ + 13 ∨ (p = QQ κ ∧ (j = 21 ∨ j = 29 ∨ j = 30)) ∨ (QQ κ + 15 ≤ p ∧ p ≤ QQ κ + 20) ∨ (p = QQ κ + 14 ∧ 22080 ≤ j)
def rsQ (κ : Ko) (p j : Nat) : Prop := scQ κ p j ∨ p = QQ κ + 14
/-- a sheet of the class and its row -/
def SHT (κ : Ko) (dt : AS) (a : Nat) (S : Nat → Int32) (c : Nat) : Prop := ShD κ dt a S ∧ SOK S ∧ UOK S ∧ gi dt a 7 = S 3 ∧ (S 2).toNatClampNeg < c
/-- the reference's row of a sheet of an image -/
def imr (rt : AS) (q k i j : Nat) : Int32 := gi rt (q + 21) (22080 * k + (3680 * i + j))
def IMK (κ : Ko) (c : Nat) (dt rt : AS) (k : Nat) : Prop := (gi rt (QQ κ + 23) k = 0 ∨ gi rt (QQ κ + 23) k = 1) ∧ gi dt (PA κ k) 2 = gi rt (QQ κ + 23) k ∧ (gi rt (QQ κ + 23) k = 1 → ∃ mk, mk ≤ 6 ∧ gi dt (PA κ k) 1 = nI mk ∧ gi rt (QQ κ + 22) k = nI mk ∧ ∀ i, i < mk → SHT κ dt (IA κ k i) (imr rt (QQ κ) k i) c)
/-- the class's references that never change -/
def FIX (κ : Ko) (dt : AS) : Prop := (∀ i, i < 6 → gr dt (kB (kt κ) + 22) i = some (HA κ i)) ∧ (∀ k, k < 4 → gr dt (kB (kt κ) + 53) k = some (PA κ k)) ∧ ∀ k i, k < 4 → i < 6 → gr dt (PA κ k + 1) i = some (IA κ k i)
def REST (κ : Ko) (C : Nat → Nat) (n : Nat) (T : Nat → Nat) (m : Nat) (dt rt : AS) : Prop :=
  TXK κ dt ∧ TXI κ dt rt (QQ κ) C ∧ TAP κ dt rt (QQ κ) n T ∧ FIX κ dt ∧ m ≤ 6 ∧ gi dt (kB (kt κ) + 21) 1 = nI m ∧ gi rt (QQ κ) 24 = nI m ∧ CN0 dt (kB (kt κ) + 62) ∧ ∀ k, k < 4 → IMK κ (C 0) dt rt k
def GRc (κ : Ko) (C : Nat → Nat) (n : Nat) (T : Nat → Nat) (m : Nat) (dt rt : AS) : Prop := REST κ C n T m dt rt ∧ ∀ i, i < m → SHT κ dt (HA κ i) (rw_ rt (QQ κ) i) (C 0)
def GR (κ : Ko) (dt rt : AS) : Prop := ∃ (C : Nat → Nat) (n : Nat) (T : Nat → Nat) (m : Nat), GRc κ C n T m dt rt
section Inv
variable {κ : Ko} {C : Nat → Nat} {n m : Nat} {T : Nat → Nat} {dt rt dt' rt' : AS} {W V : Nat → Nat → Prop}
theorem LAWR.of2 {a1 q t : Nat} (h : LAWR dt rt a1 q t) (hd : Same W dt dt') (hr : Same V rt rt') (nd : ∀ p j, a1 ≤ p → p ≤ a1 + 8 → p ≠ a1 + 4 → ¬ W p j) (nv : ∀ p j, tgQ q t p j → ¬ V p j) : LAWR dt' rt' a1 q t := by
  obtain ⟨sv, L, K, h1, h2, h3, h4, h5, h6, h7, h8⟩ := h
  exact ⟨sv, L, K, h1.of hd (nd _ _ (by omega) (by omega) (by omega)) (fun _ => nd _ _ (by omega) (by omega) (by omega)) (fun _ => nd _ _ (by omega) (by omega) (by omega)), h2.reg hr nv, h3.of hd (nd _ _ (by omega) (by omega) (by omega)) (fun j d h1 h2 => nd _ _ (by omega) (by omega) (by omega)), h4.reg hr nv, h5, by rw [(hd a1 6 (nd _ _ (by omega) (by omega) (by omega))).1]; exact h6, by rw [(hr (q + 7) t (nv _ _ (by unfold tgQ; omega))).1]; exact h7, h8⟩
theorem RULR.of2 {a1 q t : Nat} (h : RULR dt rt a1 q t) (hd : Same W dt dt') (hr : Same V rt rt') (nd : ∀ p j, a1 ≤ p → p ≤ a1 + 7 → p ≠ a1 + 4 → ¬ W p j) (nv : ∀ p j, tgQ q t p j → ¬ V p j) : RULR dt' rt' a1 q t := by
  obtain ⟨L, K, h1, h2, h3, h4, h5⟩ := h
  exact ⟨L, K, h1.of hd (nd _ _ (by omega) (by omega) (by omega)) (fun _ => nd _ _ (by omega) (by omega) (by omega)) (fun _ => nd _ _ (by omega) (by omega) (by omega)), h2.reg hr nv, h3.of hd (nd _ _ (by omega) (by omega) (by omega)) (fun j d h1 h2 => nd _ _ (by omega) (by omega) (by omega)), h4.reg hr nv, h5⟩
theorem STPR.of2 {a1 q k : Nat} (h : STPR dt rt a1 q k) (hd : Same W dt dt') (hr : Same V rt rt') (nd : ∀ p j, p = a1 ∧ j = 2 ∨ p = a1 + 1 ∨ p = a1 + 2 → ¬ W p j) (nv : ∀ p j, tgS q k p j → ¬ V p j) : STPR dt' rt' a1 q k := by
  obtain ⟨F, P, f, h1, h2, h3⟩ := h
  exact ⟨F, P, f, ⟨by rw [(hd a1 2 (nd _ _ (Or.inl ⟨rfl, rfl⟩))).1]; exact h1.1, fun i hi => by rw [(hd _ _ (nd _ _ (Or.inr (Or.inl rfl)))).1]; exact h1.2.1 i hi, fun i hi => by rw [(hd _ _ (nd _ _ (Or.inr (Or.inr rfl)))).1]; exact h1.2.2 i hi⟩, h2.reg h3.1 hr nv, h3⟩
theorem TXI.fr (h : TXI κ dt rt (QQ κ) C) (hd : Same (rsD κ) dt dt') (hr : Same (rsQ κ) rt rt') : TXI κ dt' rt' (QQ κ) C := by
  obtain ⟨h0, h1, h2, h3, h4⟩ := h
  have c6 : ∀ s, s < 4 → C s ≤ 6 := fun s hs => (h0 s hs).1
  refine ⟨fun s hs => ⟨(h0 s hs).1, ?_, ?_⟩, fun k hk => ?_, fun k hk => ?_, fun k hk => ?_, fun k hk => ?_⟩
  · rw [(hd _ _ (fun z => by unfold rsD scD at z; omega)).1]; exact (h0 s hs).2.1
  · rw [(hr _ _ (fun z => by unfold rsQ scQ at z; omega)).1]; exact (h0 s hs).2.2
  · have := c6 0 (by decide)
    exact (h1 k hk).of2 hd hr (fun p j x1 x2 x3 z => by unfold rsD scD at z; unfold LA at x1 x2 x3; omega) (fun p j x z => by unfold rsQ scQ at z; unfold tgQ at x; omega)
  · have := c6 1 (by decide)
    exact (h2 k hk).of hd hr (fun p j x1 x2 z => by unfold rsD scD at z; unfold DA at x1 x2; omega) (fun p j x z => by unfold rsQ scQ at z; unfold tgQ at x; omega)
  · have := c6 2 (by decide)
    exact (h3 k hk).of2 hd hr (fun p j x1 x2 x3 z => by unfold rsD scD at z; unfold RA at x1 x2 x3; omega) (fun p j x z => by unfold rsQ scQ at z; unfold tgQ at x; omega)
  · have := c6 3 (by decide)
    exact (h4 k hk).of2 hd hr (fun p j x z => by unfold rsD scD at z; unfold SA at x; omega) (fun p j x z => by unfold rsQ scQ at z; unfold tgS at x; omega)
theorem TXK.fr (h : TXK κ dt) (hd : ∀ p j, kB (kt κ) + 8 ≤ p → p ≤ kB (kt κ) + 11 → gr dt' p j = gr dt p j) : TXK κ dt' := fun k hk => by
  obtain ⟨⟨h1, h2, h3, h4⟩, h5⟩ := h k hk
  exact ⟨⟨by rw [hd _ _ (by omega) (by omega)]; exact h1, by rw [hd _ _ (by omega) (by omega)]; exact h2, by rw [hd _ _ (by omega) (by omega)]; exact h3, by rw [hd _ _ (by omega) (by omega)]; exact h4⟩, h5⟩
theorem TAP.fr (h : TAP κ dt rt (QQ κ) n T) (hd : Same W dt dt') (hr : Same V rt rt') (nd : ∀ p j, p = kB (kt κ) ∧ j = 1 ∨ p = kB (kt κ) + 1 ∨ p = kB (kt κ) + 2 → ¬ W p j) (nv : ∀ p j, p = QQ κ ∧ j = 1 ∨ p = QQ κ + 1 → ¬ V p j) : TAP κ dt' rt' (QQ κ) n T := by
  obtain ⟨⟨a1, a2, a3, a4, a5⟩, b1, ⟨c1, c2, c3⟩, A, iw, d1, d2⟩ := h
  exact ⟨⟨by rw [(hd _ _ (nd _ _ (by omega))).2.2]; exact a1, a2, a3, fun k hk => by rw [(hd _ _ (nd _ _ (by omega))).1]; exact a4 k hk, a5⟩, by rw [(hd _ _ (nd _ _ (by omega))).1]; exact b1, ⟨by rw [(hr _ _ (nv _ _ (by omega))).1]; exact c1, c2, fun k hk => by rw [(hr _ _ (nv _ _ (by omega))).1]; exact c3 k hk⟩, A, iw, by rw [(hd _ _ (nd _ _ (by omega))).2.2]; exact d1, by rw [(hd _ _ (nd _ _ (by omega))).2.2]; exact d2⟩
theorem SHT.fr {a : Nat} {S : Nat → Int32} {c : Nat} (h : SHT κ dt a S c) (hd : Same W dt dt') (nd : ∀ p j, a ≤ p → p ≤ a + 3 → ¬ W p j) : SHT κ dt' a S c :=
  ⟨h.1.fr hd nd, h.2.1, h.2.2.1, by rw [(hd a 7 (nd _ _ (by omega) (by omega))).1]; exact h.2.2.2.1, h.2.2.2.2⟩
theorem IMK.fr {c k : Nat} (hk : k < 4) (h : IMK κ c dt rt k) (hd : Same W dt dt') (hr : Same V rt rt') (nd : ∀ p j, kB (kt κ) + 232 ≤ p → p < kB (kt κ) + 360 → ¬ W p j) (nv : ∀ p j, QQ κ + 21 ≤ p → p ≤ QQ κ + 23 → ¬ V p j) : IMK κ c dt' rt' k := by
  obtain ⟨h1, h2, h3⟩ := h
  have e23 : gi rt' (QQ κ + 23) k = gi rt (QQ κ + 23) k := (hr _ _ (nv _ _ (by omega) (by omega))).1
  have e2 : ∀ j, gi dt' (PA κ k) j = gi dt (PA κ k) j := fun j => (hd _ _ (nd _ _ (by unfold PA; omega) (by unfold PA; omega))).1
  unfold IMK
  rw [e23, e2]
  refine ⟨h1, h2, fun z => ?_⟩
  obtain ⟨mk, g1, g2, g3, g4⟩ := h3 z
  refine ⟨mk, g1, by rw [e2]; exact g2, by rw [(hr _ _ (nv _ _ (by omega) (by omega))).1]; exact g3, fun i hi => ?_⟩
  have er : imr rt' (QQ κ) k i = imr rt (QQ κ) k i := funext (fun j => (hr _ _ (nv _ _ (by omega) (by omega))).1)
  rw [er]
  exact (g4 i hi).fr hd (fun p j x1 x2 => nd _ _ (by unfold IA at x1; omega) (by unfold IA at x2; omega))
theorem FIX.fr (h : FIX κ dt) (hd : Same W dt dt') (nd : ∀ p j, p = kB (kt κ) + 22 ∨ p = kB (kt κ) + 53 ∨ kB (kt κ) + 232 ≤ p ∧ p < kB (kt κ) + 360 ∧ (p - kB (kt κ) - 232) % 32 = 1 → ¬ W p j) : FIX κ dt' :=
  ⟨fun i hi => by rw [(hd _ _ (nd _ _ (by omega))).2.2]; exact h.1 i hi, fun k hk => by rw [(hd _ _ (nd _ _ (by omega))).2.2]; exact h.2.1 k hk, fun k i hk hi => by
    rw [(hd _ _ (nd _ _ (by unfold PA; omega))).2.2]; exact h.2.2 k i hk hi⟩
theorem REST.fr (h : REST κ C n T m dt rt) (hd : Same (rsD κ) dt dt') (hr : Same (rsQ κ) rt rt') : REST κ C n T m dt' rt' := by
  obtain ⟨h1, h2, h3, h4, h5, h6, h7, h8, h9⟩ := h
  refine ⟨h1.fr (fun p j x1 x2 => (hd _ _ (fun z => by unfold rsD scD at z; omega)).2.2), h2.fr hd hr, h3.fr hd hr (fun p j x z => by unfold rsD scD at z; omega) (fun p j x z => by unfold rsQ scQ at z; omega), h4.fr hd (fun p j x z => by unfold rsD scD at z; omega), h5, ?_, ?_, fun p hp => ?_, fun k hk => ?_⟩
  · rw [(hd _ _ (fun z => by unfold rsD scD at z; omega)).1]; exact h6
  · rw [(hr _ _ (fun z => by unfold rsQ scQ at z; omega)).1]; exact h7
  · rw [(hd _ _ (fun z => by unfold rsD scD at z; omega)).1]; exact h8 p hp
  · exact (h9 k hk).fr hk hd hr (fun p j x1 x2 z => by unfold rsD scD at z; omega) (fun p j x1 x2 z => by unfold rsQ scQ at z; omega)
/-- scratch does not matter -/
theorem GRc.sc (h : GRc κ C n T m dt rt) (hd : Same (scD κ) dt dt') (hr : Same (scQ κ) rt rt') : GRc κ C n T m dt' rt' := by
  refine ⟨h.1.fr (hd.mono (fun _ _ z => Or.inl z)) (hr.mono (fun _ _ z => Or.inl z)), fun i hi => ?_⟩
  have hm := h.1.2.2.2.2.1
  have er : rw_ rt' (QQ κ) i = rw_ rt (QQ κ) i ∨ True := Or.inr trivial
  have hs := (h.2 i hi).fr hd (fun p j x1 x2 z => by unfold scD at z; unfold HA at x1 x2; omega)
  have ee : ∀ k, k < 3680 → rw_ rt' (QQ κ) i k = rw_ rt (QQ κ) i k := fun k hk => (hr _ _ (fun z => by unfold scQ at z; omega)).1
  obtain ⟨g1, g2, g3, g4, g5⟩ := hs
  exact ⟨g1.ext ee (sok_6 g2).2.1 (sok_7 g2).2 ((g2.1.2.2.2.2.2.1).cl (by decide)).2.2, sok_ext g2 ee, uok_ext g2 g3 ee, by rw [ee 3 (by decide)]; exact g4, by rw [ee 2 (by decide)]; exact g5⟩
/-- one sheet is another -/
theorem GRc.one {i : Nat} (h : GRc κ C n T m dt rt) (hi : i < m) (hd : Same (fun p j => scD κ p j ∨ HA κ i ≤ p ∧ p ≤ HA κ i + 4) dt dt') (hr : Same (fun p j => scQ κ p j ∨ p = QQ κ + 14 ∧ 3680 * i ≤ j ∧ j < 3680 * i + 3680) rt rt') (hs : SHT κ dt' (HA κ i) (rw_ rt' (QQ κ) i) (C 0)) : GRc κ C n T m dt' rt' := by
  have hm := h.1.2.2.2.2.1
  refine ⟨h.1.fr (hd.mono (fun p j z => z.elim Or.inl (fun y => Or.inr (by unfold HA at y; omega)))) (hr.mono (fun p j z => z.elim Or.inl (fun y => Or.inr y.1))), fun i' hi' => ?_⟩
  by_cases e : i' = i
  · rw [e]; exact hs
  · have hs := (h.2 i' hi').fr hd (fun p j x1 x2 z => by unfold scD HA at z; unfold HA at x1 x2; omega)
    have ee : ∀ k, k < 3680 → rw_ rt' (QQ κ) i' k = rw_ rt (QQ κ) i' k := fun k hk => (hr _ _ (fun z => by unfold scQ at z; omega)).1
    obtain ⟨g1, g2, g3, g4, g5⟩ := hs
    exact ⟨g1.ext ee (sok_6 g2).2.1 (sok_7 g2).2 ((g2.1.2.2.2.2.2.1).cl (by decide)).2.2, sok_ext g2 ee, uok_ext g2 g3 ee, by rw [ee 3 (by decide)]; exact g4, by rw [ee 2 (by decide)]; exact g5⟩
end Inv
