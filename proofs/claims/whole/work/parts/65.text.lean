/-! the call text, both classes -/
noncomputable def xnum (a0 : Nat) (x1 : Int32) (st : AS) : Int32 := (if (wi ((x1 : Int32).toInt64) (0 : Int64) (3 : Int64)) = 0 then ((-1) : Int32) else (gat (gi st (a0 + 7)) 4 x1) : Int32)
noncomputable def xtE (κ : Ko) (a0 : Nat) (x1 num v26 : Int32) (s27 : AS) : Option (Int32 × AS) := if v26 = 0 then some (num, (gput (ui s27 a0 1 0) (a0 + 7) 4 x1 (num + 1))) else some (((-2) : Int32) - v26, (ui s27 a0 1 0))
theorem f_xtext_e (κ : Ko) (a0 : Nat) (x1 : Int32) (st : AS) : f_X_text κ a0 x1 st = if (wi (((xnum a0 x1 st) : Int32).toInt64) (0 : Int64) (5 : Int64)) = 0 then some (((-1) : Int32), st) else if x1 = 0 then grd (vp_in (xnum a0 x1 st) 6) (bnd (gr st (a0 + 8) ((xnum a0 x1 st) : Int32).toNatClampNeg) (fun c21 => grd (ly κ c21 = (3, 7)) (bnd2 (f_Rd_readLaw κ (a0 + 2) c21 (gi st a0 1) st) (fun v23 s24 => xtE κ a0 x1 (xnum a0 x1 st) v23 s24)))) else if x1 = 1 then grd (vp_in (xnum a0 x1 st) 6) (bnd (gr st (a0 + 9) ((xnum a0 x1 st) : Int32).toNatClampNeg) (fun c15 => grd (ly κ c15 = (2, 5)) (bnd2 (f_Rd_readDoing κ (a0 + 2) c15 (gi st a0 1) st) (fun v17 s18 => xtE κ a0 x1 (xnum a0 x1 st) v17 s18)))) else if x1 = 2 then grd (vp_in (xnum a0 x1 st) 6) (bnd (gr st (a0 + 10) ((xnum a0 x1 st) : Int32).toNatClampNeg) (fun c9 => grd (ly κ c9 = (7, 5)) (bnd2 (f_Rd_readRule κ (a0 + 2) c9 (gi st a0 1) st) (fun v11 s12 => xtE κ a0 x1 (xnum a0 x1 st) v11 s12)))) else grd (vp_in (xnum a0 x1 st) 6) (bnd (gr st (a0 + 11) ((xnum a0 x1 st) : Int32).toNatClampNeg) (fun c3 => grd (ly κ c3 = (10, 7)) (bnd2 (f_Rd_readStrip κ (a0 + 2) c3 (gi st a0 1) st) (fun v5 s6 => xtE κ a0 x1 (xnum a0 x1 st) v5 s6)))) := rfl
def DA (κ : Ko) (k : Nat) : Nat := kB (kt κ) + 79 + 27 * k
def RA (κ : Ko) (k : Nat) : Nat := kB (kt κ) + 84 + 27 * k
def SA (κ : Ko) (k : Nat) : Nat := kB (kt κ) + 92 + 27 * k
/-- a reference's region of a text -/
def tgQ (q t p j : Nat) : Prop := p = q + 3 ∧ 400 * t ≤ j ∧ j < 400 * t + 400 ∨ p = q + 4 ∧ j = t ∨ p = q + 5 ∧ 60 * t ≤ j ∧ j < 60 * t + 60 ∨ p = q + 6 ∧ j = t ∨ p = q + 7 ∧ j = t
def tgS (q k p j : Nat) : Prop := p = q + 8 ∧ 21 * k ≤ j ∧ j < 21 * k + 21 ∨ p = q + 9 ∧ 20 * k ≤ j ∧ j < 20 * k + 20 ∨ p = q + 10 ∧ j = k
theorem CRL.reg {rs rs' : AS} {q t : Nat} {L : List (Nat × Nat)} {V : Nat → Nat → Prop} (h : CRL rs q t L) (hw : Same V rs rs') (nv : ∀ p j, tgQ q t p j → ¬ V p j) : CRL rs' q t L :=
  ⟨by rw [(hw _ _ (nv _ _ (by unfold tgQ; omega))).1]; exact h.1, h.2.1, fun k hk => by
    have := h.2.1
    rw [(hw _ _ (nv (q + 3) (400 * t + k) (by unfold tgQ; omega))).1]; exact h.2.2 k hk⟩
theorem KQ.reg {rs rs' : AS} {q t : Nat} {K : List c4} {V : Nat → Nat → Prop} (h : KQ rs q t K) (hw : Same V rs rs') (nv : ∀ p j, tgQ q t p j → ¬ V p j) : KQ rs' q t K :=
  ⟨by rw [(hw _ _ (nv _ _ (by unfold tgQ; omega))).1]; exact h.1, h.2.1, fun k hk => by
    have h12 := h.2.1
    have := h.2.2 k hk
    rw [(hw _ _ (nv (q + 5) (60 * t + 5 * k) (by unfold tgQ; omega))).1, (hw _ _ (nv (q + 5) (60 * t + 5 * k + 1) (by unfold tgQ; omega))).1, (hw _ _ (nv (q + 5) (60 * t + 5 * k + 2) (by unfold tgQ; omega))).1, (hw _ _ (nv (q + 5) (60 * t + 5 * k + 3) (by unfold tgQ; omega))).1, (hw _ _ (nv (q + 5) (60 * t + 5 * k + 4) (by unfold tgQ; omega))).1]
    exact this⟩
theorem KQd.reg {rs rs' : AS} {q t : Nat} {K : List c4} {V : Nat → Nat → Prop} (h : KQd rs q t K) (hw : Same V rs rs') (nv : ∀ p j, tgQ q t p j → ¬ V p j) : KQd rs' q t K :=
  ⟨by rw [(hw _ _ (nv _ _ (by unfold tgQ; omega))).1]; exact h.1, h.2.1, fun k hk => by
    have h12 := h.2.1
    have := h.2.2 k hk
    rw [(hw _ _ (nv (q + 5) (60 * t + 5 * k) (by unfold tgQ; omega))).1, (hw _ _ (nv (q + 5) (60 * t + 5 * k + 1) (by unfold tgQ; omega))).1, (hw _ _ (nv (q + 5) (60 * t + 5 * k + 2) (by unfold tgQ; omega))).1]
    exact this⟩
theorem STQ.reg {rs rs' : AS} {q k F : Nat} {P f : Nat → Nat} {V : Nat → Nat → Prop} (h : STQ rs q k F P f) (hF : F ≤ 20) (hw : Same V rs rs') (nv : ∀ p j, tgS q k p j → ¬ V p j) : STQ rs' q k F P f :=
  ⟨by rw [(hw _ _ (nv (q + 10) k (by unfold tgS; omega))).1]; exact h.1, fun i hi => by rw [(hw _ _ (nv (q + 8) (21 * k + i) (by unfold tgS; omega))).1]; exact h.2.1 i hi, fun i hi => by rw [(hw _ _ (nv (q + 9) (20 * k + i) (by unfold tgS; omega))).1]; exact h.2.2 i hi⟩
section Frames
variable {dt dt' rt rt' : AS} {a1 q t : Nat} {W V : Nat → Nat → Prop}
theorem LAWR.of (h : LAWR dt rt a1 q t) (hd : Same W dt dt') (hr : Same V rt rt') (nd : ∀ p j, a1 ≤ p → p ≤ a1 + 8 → ¬ W p j) (nv : ∀ p j, tgQ q t p j → ¬ V p j) : LAWR dt' rt' a1 q t := by
  obtain ⟨sv, L, K, h1, h2, h3, h4, h5, h6, h7, h8⟩ := h
  exact ⟨sv, L, K, h1.of hd (nd _ _ (by omega) (by omega)) (fun j => nd _ _ (by omega) (by omega)) (fun j => nd _ _ (by omega) (by omega)), h2.reg hr nv, h3.of hd (nd _ _ (by omega) (by omega)) (fun j d _ _ => nd _ _ (by omega) (by omega)), h4.reg hr nv, h5, by rw [(hd _ _ (nd a1 6 (by omega) (by omega))).1]; exact h6, by rw [(hr _ _ (nv (q + 7) t (by unfold tgQ; omega))).1]; exact h7, h8⟩
theorem RULR.of (h : RULR dt rt a1 q t) (hd : Same W dt dt') (hr : Same V rt rt') (nd : ∀ p j, a1 ≤ p → p ≤ a1 + 7 → ¬ W p j) (nv : ∀ p j, tgQ q t p j → ¬ V p j) : RULR dt' rt' a1 q t := by
  obtain ⟨L, K, h1, h2, h3, h4, h5⟩ := h
  exact ⟨L, K, h1.of hd (nd _ _ (by omega) (by omega)) (fun j => nd _ _ (by omega) (by omega)) (fun j => nd _ _ (by omega) (by omega)), h2.reg hr nv, h3.of hd (nd _ _ (by omega) (by omega)) (fun j d _ _ => nd _ _ (by omega) (by omega)), h4.reg hr nv, h5⟩
theorem DOSR.of (h : DOSR dt rt a1 q t) (hd : Same W dt dt') (hr : Same V rt rt') (nd : ∀ p j, a1 ≤ p → p ≤ a1 + 4 → ¬ W p j) (nv : ∀ p j, tgQ q t p j → ¬ V p j) : DOSR dt' rt' a1 q t := by
  obtain ⟨K, h1, h2, h3⟩ := h
  exact ⟨K, h1.of hd (fun j d _ => nd _ _ (by omega) (by omega)), h2.reg hr nv, h3⟩
theorem STPR.of (h : STPR dt rt a1 q t) (hd : Same W dt dt') (hr : Same V rt rt') (nd : ∀ p j, a1 ≤ p → p ≤ a1 + 2 → ¬ W p j) (nv : ∀ p j, tgS q t p j → ¬ V p j) : STPR dt' rt' a1 q t := by
  obtain ⟨F, P, f, h1, h2, h3⟩ := h
  exact ⟨F, P, f, h1.of hd (nd _ _ (by omega) (by omega)) (fun j => nd _ _ (by omega) (by omega)) (fun j => nd _ _ (by omega) (by omega)), h2.reg h3.1 hr nv, h3⟩
end Frames
/-- the told texts, both sides -/
def TXI (κ : Ko) (dt rt : AS) (q : Nat) (C : Nat → Nat) : Prop :=
  (∀ s, s < 4 → C s ≤ 6 ∧ gi dt (kB (kt κ) + 7) s = nI (C s) ∧ gi rt (q + 2) s = nI (C s)) ∧ (∀ k, k < C 0 → LAWR dt rt (LA κ k) q k) ∧ (∀ k, k < C 1 → DOSR dt rt (DA κ k) q (6 + k)) ∧ (∀ k, k < C 2 → RULR dt rt (RA κ k) q (12 + k)) ∧ (∀ k, k < C 3 → STPR dt rt (SA κ k) q k)
/-- what stays of the class's objects -/
def TXK (κ : Ko) (dt : AS) : Prop := ∀ k, k < 6 → (gr dt (kB (kt κ) + 8) k = some (LA κ k) ∧ gr dt (kB (kt κ) + 9) k = some (DA κ k) ∧ gr dt (kB (kt κ) + 10) k = some (RA κ k) ∧ gr dt (kB (kt κ) + 11) k = some (SA κ k)) ∧ ly κ (LA κ k) = (3, 7) ∧ ly κ (LA κ k + 1) = (0, 4) ∧ ly κ (DA κ k) = (2, 5) ∧ ly κ (RA κ k) = (7, 5) ∧ ly κ (RA κ k + 1) = (0, 4) ∧ ly κ (SA κ k) = (10, 7)
/-- the tape and the reader, both sides -/
def TAP (κ : Ko) (dt rt : AS) (q n : Nat) (T : Nat → Nat) : Prop := TD0 κ dt (kB (kt κ) + 2) (kB (kt κ) + 1) n T ∧ gi dt (kB (kt κ)) 1 = nI n ∧ TQ rt q n T ∧ ∃ A iw, gr dt (kB (kt κ) + 2) 5 = some A ∧ gr dt (kB (kt κ) + 2) 6 = some (kK (kt κ) iw)
def txD (κ : Ko) (p j : Nat) : Prop := p = kB (kt κ) ∧ j = 1 ∨ p = kB (kt κ) + 2 ∧ 1 ≤ j ∧ j ≤ 6 ∨ p = kB (kt κ) + 7 ∨ kB (kt κ) + 70 ≤ p ∧ p < kB (kt κ) + 232
def txQ (q p j : Nat) : Prop := p = q ∧ (j = 1 ∨ 11 ≤ j ∧ j ≤ 19) ∨ q + 2 ≤ p ∧ p ≤ q + 11
