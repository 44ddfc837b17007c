/-! what stands while a constructor goes on -/
theorem RT_f {κ : Kp} {q ci n j d r : Nat} (hl : lay κ q = (ci, n)) (hc : ci < 50) (hf : ft ci j = d + 3) (hr : q + d = r) : RT κ q j = some r := by
  unfold RT
  rw [hl]
  show (if ci < 50 then (match ft ci j with | 0 => none | 1 => none | 2 => _ | d + 3 => some (q + d)) else _) = _
  rw [if_pos hc, hf, ← hr]
theorem RT_z {κ : Kp} {q ci n j : Nat} (hl : lay κ q = (ci, n)) (hc : ci < 50) (hf : ft ci j < 2) : RT κ q j = none := by
  unfold RT
  rw [hl]
  show (if ci < 50 then (match ft ci j with | 0 => none | 1 => none | 2 => _ | d + 3 => some (q + d)) else _) = _
  rw [if_pos hc]
  rcases hx : ft ci j with _ | _ | x
  · rfl
  · rfl
  · omega
theorem RT_p {κ : Kp} {q ci n j : Nat} (hl : lay κ q = (ci, n)) (hc : 50 ≤ ci ∧ ci < 54) : RT κ q j = none := by
  unfold RT
  rw [hl]
  show (if ci < 50 then _ else if ci < 54 then none else _) = _
  rw [if_neg (by omega), if_pos hc.2]
theorem RT_54 {κ : Kp} {q n j : Nat} (hl : lay κ q = (54, n)) : RT κ q j = if j < 6 then some (kB κ + (70 + 27 * j)) else none := by
  unfold RT
  rw [hl]
  rfl
theorem RT_55 {κ : Kp} {q n j : Nat} (hl : lay κ q = (55, n)) : RT κ q j = if j < 6 then some (kB κ + (79 + 27 * j)) else none := by
  unfold RT
  rw [hl]
  rfl
theorem RT_56 {κ : Kp} {q n j : Nat} (hl : lay κ q = (56, n)) : RT κ q j = if j < 6 then some (kB κ + (84 + 27 * j)) else none := by
  unfold RT
  rw [hl]
  rfl
theorem RT_57 {κ : Kp} {q n j : Nat} (hl : lay κ q = (57, n)) : RT κ q j = if j < 6 then some (kB κ + (92 + 27 * j)) else none := by
  unfold RT
  rw [hl]
  rfl
theorem RT_58 {κ : Kp} {q n j : Nat} (hl : lay κ q = (58, n)) : RT κ q j = if j < 4 then some (kB κ + (232 + 32 * j)) else none := by
  unfold RT
  rw [hl]
  rfl
theorem RT_59 {κ : Kp} {q n j : Nat} (hl : lay κ q = (59, n)) : RT κ q j = if j < 6 then some (q + (1 + 5 * j)) else none := by
  unfold RT
  rw [hl]
  rfl
theorem ft_hi {c j : Nat} {l : List Nat} (h : ftL.getD c [] = l) (hj : l.length ≤ j) : ft c j = 0 := by
  unfold ft
  rw [h, List.getD_eq_getElem?_getD, List.getElem?_eq_none hj]
  rfl
def CWI (κ : Kp) (d0 D : Nat) (H : Nat → Nat → Prop) (st st' : AS) : Prop := (∀ p j, kB κ + d0 ≤ p → p < kB κ + D → (H p j → gr st' p j = none) ∧ (¬ H p j → gr st' p j = RT κ p j)) ∧ (∀ p, p < kB κ + d0 → ∀ j, gr st' p j = gr st p j) ∧ (∀ p j, gi st' p j = gi st p j) ∧ (∀ p j, gl st' p j = gl st p j) ∧ Fresh κ D st'
section Walk
variable {κ : Kp} {d0 D q j : Nat} {H H' : Nat → Nat → Prop} {st st' st2 : AS}
theorem CWI.fr (h : CWI κ d0 D H st st') : Fresh κ D st' := h.2.2.2.2
theorem CWI.start (hF : Fresh κ d0 st) (hH : ∀ j, H (kB κ + d0) j) : CWI κ d0 (d0 + 1) H st st :=
  ⟨fun p j h1 h2 => by
    have e : p = kB κ + d0 := by omega
    subst e
    exact ⟨fun _ => by rw [(hF _ (Nat.le_refl _)).2.2], fun hn => absurd (hH j) hn⟩, fun _ _ _ => rfl, fun _ _ => rfl, fun _ _ => rfl, hF.up (by omega)⟩
theorem CWI.grow (h : CWI κ d0 D H st st') (hn : ∀ j, ¬ H (kB κ + D) j → RT κ (kB κ + D) j = none) : CWI κ d0 (D + 1) H st st' := by
  refine ⟨fun p j h1 h2 => ?_, h.2.1, h.2.2.1, h.2.2.2.1, h.fr.up (by omega)⟩
  by_cases e : p = kB κ + D
  · subst e
    have e2 : gr st' (kB κ + D) j = none := by rw [(h.fr _ (Nat.le_refl _)).2.2]
    exact ⟨fun _ => e2, fun hh => by rw [e2, hn j hh]⟩
  · exact h.1 p j h1 (by omega)
theorem CWI.put {lo r : Nat} (h : CWI κ d0 D H st st') (hq : kB κ + d0 ≤ q ∧ q < kB κ + D) (hr : RT κ q j = some r) (h1 : ∀ p i, H' p i → H p i ∧ ¬ (p = q ∧ i = j)) (h2 : ∀ p i, H p i → H' p i ∨ (p = q ∧ lo ≤ i ∧ i ≤ j)) (hz : ∀ i, lo ≤ i → i < j → RT κ q i = none) : CWI κ d0 D H' st (ur st' q j (some r)) := by
  refine ⟨fun p i k1 k2 => ⟨fun hh => ?_, fun hh => ?_⟩, fun p hp i => ?_, h.2.2.1, h.2.2.2.1, Fresh.ur h.fr (by omega)⟩
  · rw [gr_ur, if_neg (h1 p i hh).2]
    exact (h.1 p i k1 k2).1 (h1 p i hh).1
  · rw [gr_ur]
    by_cases e : p = q ∧ i = j
    · rw [if_pos e, e.1, e.2, hr]
    · rw [if_neg e]
      by_cases e2 : H p i
      · rcases h2 p i e2 with e3 | e3
        · exact absurd e3 hh
        · rw [(h.1 p i k1 k2).1 e2]
          obtain ⟨rfl, e4, e5⟩ := e3
          exact (hz i e4 (by
            have : ¬ i = j := fun x => e ⟨rfl, x⟩
            omega)).symm
      · exact (h.1 p i k1 k2).2 e2
  · rw [gr_ur, if_neg (by omega)]
    exact h.2.1 p hp i
theorem CWI.call {len : Nat} (h : CWI κ d0 D H st st') (hc : CP κ D len st' st2) (hd : d0 ≤ D) (hH : ∀ p i, kB κ + D ≤ p → p < kB κ + (D + len) → ¬ H p i) : CWI κ d0 (D + len) H st st2 := by
  refine ⟨fun p i k1 k2 => ?_, fun p hp i => ?_, fun p i => (hc.2.2.1 p i).trans (h.2.2.1 p i), fun p i => (hc.2.2.2.1 p i).trans (h.2.2.2.1 p i), hc.2.2.2.2⟩
  · by_cases e : p < kB κ + D
    · rw [hc.2.1 p e i]
      exact h.1 p i k1 e
    · exact ⟨fun hh => absurd hh (hH p i (by omega) k2), fun _ => hc.1 p (by omega) k2 i⟩
  · rw [hc.2.1 p (by omega) i, h.2.1 p hp i]
theorem CWI.done {len : Nat} (h : CWI κ d0 (d0 + len) H st st') (hH : ∀ p j, H p j → RT κ p j = none) : CP κ d0 len st st' :=
  ⟨fun p h1 h2 j => by
    by_cases e : H p j
    · rw [((h.1 p j h1 h2).1 e), hH p j e]
    · exact (h.1 p j h1 h2).2 e, h.2.1, h.2.2.1, h.2.2.2.1, h.fr⟩
theorem CWI.get {ci r : Nat} (h : CWI κ d0 D H st st') (hkF : kF κ = false) (hq : kB κ + d0 ≤ q ∧ q < kB κ + D) (hn : ¬ H q j) (hr : RT κ q j = some r) (hf : 2 ≤ ft ci j) : fvl κ st' ci q j = .ref r := by
  unfold fvl
  rw [(h.1 q j hq.1 hq.2).2 hn, hr]
  rcases hx : ft ci j with _ | _ | _ | d
  · omega
  · omega
  · rfl
  · simp only [hkF]
    rfl
end Walk
section CtorRows2
variable {κ : Kp} {M : Mth} {d' d c sl pc ix n : Nat} {Q : Option Value → AS → Prop} {lv : List (Option Value)} {rest : List Value} {st : AS}
theorem cp_aas {q ak v ci n2 j : Nat} {i : Int32} {Cn : String} {Tt : u_T} {ty : Nat → FieldType} (hi : i.toNatClampNeg = j) (hC : ClsOK ci n2 Cn Tt ty) (hd : decode (mC M) pc = .ok (.aastore, 1)) (hD : kB κ ≤ q ∧ q < kB κ + d) (hD2 : kB κ ≤ v ∧ v < kB κ + d) (hl : lay κ q = (ak + 50, n)) (ha : 4 ≤ ak) (hl2 : lay κ v = (ci, n2)) (hc : ci < 50) (ht : (tyl κ)[ak]? = some (kA κ (ak + 50), .object Cn)) (hin : vp_in i n) (k : VA κ M d' Q d c sl (pc + 1) lv rest (ur st q j (some v))) : VA κ M d' Q d c sl pc lv (.ref v :: .int i :: .ref q :: rest) st := by
  subst hi
  exact ra_aastore hC hd hD hD2 hl ha hl2 hc ht hin k
end CtorRows2
theorem LY.of {κ : Kp} {k : Nat} {l l' : List (Nat × Nat)} (h : ∀ i c n, l[i]? = some (c, n) → lay κ (kB κ + i) = (c, n)) (hs : ∀ i, i < l'.length → l[k + i]? = l'[i]?) : LY κ k l' := fun i c n hi =>
  h (k + i) c n ((hs i (List.getElem?_eq_some_iff.mp hi).1).trans hi)
def HR (κ : Kp) (d0 J p j : Nat) : Prop := p = kB κ + d0 ∧ J ≤ j
def HP (κ : Kp) (d0 J a p j : Nat) : Prop := (p = kB κ + d0 ∧ J ≤ j) ∨ (p = kB κ + (d0 + 1) ∧ a ≤ j)
def HX (κ : Kp) (J a b c d e p j : Nat) : Prop := (p = kB κ ∧ J ≤ j) ∨ (p = kB κ + 8 ∧ a ≤ j) ∨ (p = kB κ + 9 ∧ b ≤ j) ∨ (p = kB κ + 10 ∧ c ≤ j) ∨ (p = kB κ + 11 ∧ d ≤ j) ∨ (p = kB κ + 53 ∧ e ≤ j)
