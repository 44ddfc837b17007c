/-! the two classes on one store -/
def wD (κ : Ko) (p _j : Nat) : Prop := QQ κ ≤ p
def vR (κ : Ko) (p _j : Nat) : Prop := p < QQ κ
theorem Same.rfl' (W : Nat → Nat → Prop) (st : AS) : Same W st st := fun _ _ _ => ⟨rfl, rfl, rfl⟩
section Two
variable {κ : Ko} {C : Nat → Nat} {n m : Nat} {T : Nat → Nat} {dt rt dt' rt' : AS}
theorem TXI.two (h : TXI κ dt rt (QQ κ) C) (hd : Same (wD κ) dt dt') (hr : Same (vR κ) rt rt') : TXI κ dt' rt' (QQ κ) C := by
  obtain ⟨h0, h1, h2, h3, h4⟩ := h
  have c6 : ∀ s, s < 4 → C s ≤ 6 := fun s hs => (h0 s hs).1
  refine ⟨fun s hs => ⟨(h0 s hs).1, ?_, ?_⟩, fun k hk => ?_, fun k hk => ?_, fun k hk => ?_, fun k hk => ?_⟩
  · rw [(hd _ _ (fun z => by unfold wD QQ at z; omega)).1]; exact (h0 s hs).2.1
  · rw [(hr _ _ (fun z => by unfold vR QQ at z; omega)).1]; exact (h0 s hs).2.2
  · have := c6 0 (by decide)
    exact (h1 k hk).of2 hd hr (fun p j x1 x2 x3 z => by unfold wD QQ at z; unfold LA at x1 x2 x3; omega) (fun p j x z => by unfold vR at z; unfold tgQ at x; omega)
  · have := c6 1 (by decide)
    exact (h2 k hk).of hd hr (fun p j x1 x2 z => by unfold wD QQ at z; unfold DA at x1 x2; omega) (fun p j x z => by unfold vR at z; unfold tgQ at x; omega)
  · have := c6 2 (by decide)
    exact (h3 k hk).of2 hd hr (fun p j x1 x2 x3 z => by unfold wD QQ at z; unfold RA at x1 x2 x3; omega) (fun p j x z => by unfold vR at z; unfold tgQ at x; omega)
  · have := c6 3 (by decide)
    exact (h4 k hk).of2 hd hr (fun p j x z => by unfold wD QQ at z; unfold SA at x; omega) (fun p j x z => by unfold vR at z; unfold tgS at x; omega)
theorem REST.two (h : REST κ C n T m dt rt) (hd : Same (wD κ) dt dt') (hr : Same (vR κ) rt rt') : REST κ C n T m dt' rt' := by
  obtain ⟨h1, h2, h3, h4, h5, h6, h7, h8, h9⟩ := h
  refine ⟨h1.fr (fun p j x1 x2 => (hd _ _ (fun z => by unfold wD QQ at z; omega)).2.2), h2.two hd hr, h3.fr hd hr (fun p j x z => by unfold wD QQ at z; omega) (fun p j x z => by unfold vR at z; omega), h4.fr hd (fun p j x z => by unfold wD QQ at z; omega), h5, ?_, ?_, fun p hp => ?_, fun k hk => ?_⟩
  · rw [(hd _ _ (fun z => by unfold wD QQ at z; omega)).1]; exact h6
  · rw [(hr _ _ (fun z => by unfold vR at z; omega)).1]; exact h7
  · rw [(hd _ _ (fun z => by unfold wD QQ at z; omega)).1]; exact h8 p hp
  · exact (h9 k hk).fr hk hd hr (fun p j x1 x2 z => by unfold wD QQ at z; omega) (fun p j x1 x2 z => by unfold vR at z; omega)
theorem GRc.two (h : GRc κ C n T m dt rt) (hd : Same (wD κ) dt dt') (hr : Same (vR κ) rt rt') : GRc κ C n T m dt' rt' := by
  refine ⟨h.1.two hd hr, fun i hi => ?_⟩
  have hm := h.1.2.2.2.2.1
  have ee : rw_ rt' (QQ κ) i = rw_ rt (QQ κ) i := funext (fun k => (hr _ _ (fun z => by unfold vR at z; omega)).1)
  rw [ee]
  exact (h.2 i hi).fr hd (fun p j x1 x2 z => by unfold wD QQ at z; unfold HA at x1 x2; omega)
end Two
theorem step_pure {κ : Ko} {st : AS} {A B : AS → Option Int32} (hx : ∀ (C : Nat → Nat) (n : Nat) (T : Nat → Nat) (m : Nat) (dt rt : AS), GRc κ C n T m dt rt → Both (A dt) (B rt)) (h : GR κ st st) : ∃ v, A st = some v ∧ B st = some v := by
  obtain ⟨C, n, T, m, h⟩ := h
  exact hx C n T m st st h
theorem step_out {κ : Ko} {st : AS} {A B : AS → Option (Int32 × AS)} (hx : ∀ (C : Nat → Nat) (n : Nat) (T : Nat → Nat) (m : Nat) (dt rt : AS), GRc κ C n T m dt rt → OUT κ dt rt (A dt) (B rt)) (h : GR κ st st) : ∃ v st1 st2, A st = some (v, st1) ∧ B st1 = some (v, st2) ∧ GR κ st2 st2 := by
  obtain ⟨C, n, T, m, h⟩ := h
  obtain ⟨v, d1, r1, e1, -, -, s1, -⟩ := hx C n T m st st h
  obtain ⟨v2, d2, r2, f1, f2, ⟨C2, n2, T2, m2, g⟩, -, t2⟩ := hx C n T m st d1 (h.two (Same.rfl' _ _) s1)
  rw [e1] at f1
  obtain ⟨rfl, rfl⟩ := Prod.mk.inj (Option.some.inj f1)
  exact ⟨v, d1, r2, e1, f2, C2, n2, T2, m2, g.two t2 (Same.rfl' _ _)⟩
/-! the law's own method -/
def M_LW (nm : String) : Mth := (⟨"CrumpledSheetLaw", nm, "([I)Z"⟩, code, 4, some .boolean, (2048, 84000, 600000, 7302250))
def lws (κ : Ko) (i : Nat) : List (Option Value) := [some (.ref (kX (kt κ)).1), some (.ref (kB (kt κ))), some (.ref (QQ κ)), some (.int (nI i))]
def lsw (κ : Ko) (j : Nat) : Int32 := (kX (kt κ)).2.2 j
abbrev LV (κ : Ko) (nm : String) (Q : Option Value → AS → Prop) (pc i : Nat) (stk : List Value) (st : AS) : Prop := VA (kt κ) (M_LW nm) TOT Q TOT 384 335751 pc (lws κ i) stk st
theorem la {κ : Ko} {nm : String} {Q : Option Value → AS → Prop} {pc i : Nat} {rest : List Value} {st : AS} (k : Nat) (hk : k < 6) (hi : i + 6 ≤ (kX (kt κ)).2.1) (hL : (kX (kt κ)).2.1 ≤ 3072) (d1 : decode code pc = .ok (.aload_n 0, 1)) (d2 : decode code (pc + 1) = .ok (.iload_n 3, 1)) (d3 : decode code (pc + 2) = .ok (.iconst (k : Int), 1)) (d4 : decode code (pc + 3) = .ok (.iadd, 1)) (d5 : decode code (pc + 4) = .ok (.iaload, 1)) (K : LV κ nm Q (pc + 5) i (.int (lsw κ (i + k)) :: rest) st) : LV κ nm Q pc i rest st := by
  have e1 : Int32.ofInt (k : Int) = nI k := by
    have hc : k = 0 ∨ k = 1 ∨ k = 2 ∨ k = 3 ∨ k = 4 ∨ k = 5 := by omega
    rcases hc with rfl | rfl | rfl | rfl | rfl | rfl <;> rfl
  have e2 : (nI i + nI k) = nI (i + k) := nI_k i k rfl
  have e3 : (nI i + nI k).toNatClampNeg = i + k := by rw [e2]; exact nI_clamp (by omega)
  refine r_aload_n (M := M_LW nm) (i := 0) d1 rfl rfl (r_iload_n (i := 3) d2 rfl rfl (r_iconst d3 e1 (r_iadd d4 (ra_sld d5 (vp_n e2 (by omega) (by omega)) ?_))))
  rw [e3]
  exact K
theorem lw_cond {L i : Nat} (hL : L ≤ 3072) (hi : i ≤ 4000) (h0 : L < 6 → i = 0) : (nI L - 6 < nI i) ↔ L < i + 6 := by
  by_cases h : L < 6
  · have := h0 h
    subst this
    refine ⟨fun _ => by omega, fun _ => ?_⟩
    have hc : L = 0 ∨ L = 1 ∨ L = 2 ∨ L = 3 ∨ L = 4 ∨ L = 5 := by omega
    rcases hc with rfl | rfl | rfl | rfl | rfl | rfl <;> decide
  · rw [show nI L - (6 : Int32) = nI (L - 6) from nI_sub (x := L) (y := 6) (by omega)]
    exact (nI_ltk (m := L - 6) (k := i) rfl (by omega) (by omega)).1.trans ⟨fun _ => by omega, fun _ => by omega⟩
theorem lyX (κ : Ko) : ly κ (kB (kt κ)) = (11, 15) := lyL κ 0 11 15 (by decide +kernel)
theorem lyR (κ : Ko) : ly κ (QQ κ) = (12, 36) := lyL κ 360 12 36 (by decide +kernel)
theorem hDX (κ : Ko) : kB (kt κ) ≤ kB (kt κ) ∧ kB (kt κ) < kB (kt κ) + TOT := ⟨Nat.le_refl _, Nat.lt_add_of_pos_right (by decide)⟩
theorem hDR (κ : Ko) : kB (kt κ) ≤ QQ κ ∧ QQ κ < kB (kt κ) + TOT := ⟨Nat.le_add_right _ _, Nat.add_lt_add_left (by decide) _⟩
theorem bnd_inv {α β : Type} {o : Option α} {f : α → Option β} {r : β} (h : bnd o f = some r) : ∃ a, o = some a ∧ f a = some r := by
  cases o with
  | none => cases h
  | some a => exact ⟨a, rfl, h⟩
theorem and63 (x : Int32) : ∃ n, n < 64 ∧ x &&& 63 = nI n := by
  refine ⟨(x.toBitVec &&& 63#32).toNat, ?_, ?_⟩
  · rw [BitVec.toNat_and]
    exact Nat.lt_of_le_of_lt Nat.and_le_right (by decide)
  · apply Int32.toBitVec_inj.mp
    show x.toBitVec &&& 63#32 = BitVec.ofNat 32 _
    rw [BitVec.ofNat_toNat, BitVec.setWidth_eq]
