/-! the store of a new class and a new reference -/
def kf (κ : Ko) : Kp := (κ.1, κ.2.1, κ.2.2.1, κ.2.2.2.1, false, κ.2.2.2.2)
def Z0 : AS := (fun _ _ => 0, fun _ _ => 0, fun _ _ => none)
theorem lay_at (κ : Kp) (i : Nat) : lay κ (kB κ + i) = layL.getD i (999, 0) := by
  unfold lay
  rw [if_pos (by omega), Nat.add_sub_cancel_left]
def FSH (κ : Ko) (st : AS) : Prop := (∀ p, kB (kt κ) ≤ p → p < kB (kt κ) + 384 → ∀ j, gr st p j = RT (kt κ) p j) ∧ (∀ p j, gi st p j = 0) ∧ (∀ p j, gl st p j = 0)
theorem FSH.r {κ : Ko} {st : AS} (h : FSH κ st) (i j : Nat) (hi : i < 384) : gr st (kB (kt κ) + i) j = RT (kt κ) (kB (kt κ) + i) j := h.1 _ (by omega) (by omega) j
theorem ltc6 {k : Nat} (h : k < 6) : k = 0 ∨ k = 1 ∨ k = 2 ∨ k = 3 ∨ k = 4 ∨ k = 5 := by omega
theorem ltc4 {k : Nat} (h : k < 4) : k = 0 ∨ k = 1 ∨ k = 2 ∨ k = 3 := by omega
theorem lyL (κ : Ko) (i c n : Nat) (h : layL.getD i (999, 0) = (c, n)) : ly κ (kB (kt κ) + i) = (c, n) := (lay_at (kt κ) i).trans h
theorem fs_txk {κ : Ko} {st : AS} (h : FSH κ st) : TXK κ st := fun k hk => by
  refine ⟨⟨?_, ?_, ?_, ?_⟩, ?_⟩
  · rw [h.r 8 k (by omega), RT_54 (lyL κ 8 54 6 (by decide +kernel)), if_pos hk]
    unfold LA
    exact congrArg some (by omega)
  · rw [h.r 9 k (by omega), RT_55 (lyL κ 9 55 6 (by decide +kernel)), if_pos hk]
    unfold DA
    exact congrArg some (by omega)
  · rw [h.r 10 k (by omega), RT_56 (lyL κ 10 56 6 (by decide +kernel)), if_pos hk]
    unfold RA
    exact congrArg some (by omega)
  · rw [h.r 11 k (by omega), RT_57 (lyL κ 11 57 6 (by decide +kernel)), if_pos hk]
    unfold SA
    exact congrArg some (by omega)
  · have e1 : LA κ k = kB (kt κ) + (70 + 27 * k) := by unfold LA; omega
    have e2 : LA κ k + 1 = kB (kt κ) + (71 + 27 * k) := by unfold LA; omega
    have e3 : DA κ k = kB (kt κ) + (79 + 27 * k) := by unfold DA; omega
    have e4 : RA κ k = kB (kt κ) + (84 + 27 * k) := by unfold RA; omega
    have e5 : RA κ k + 1 = kB (kt κ) + (85 + 27 * k) := by unfold RA; omega
    have e6 : SA κ k = kB (kt κ) + (92 + 27 * k) := by unfold SA; omega
    rw [e2, e5, e1, e3, e4, e6]
    have hd : ∀ k, k < 6 → layL.getD (70 + 27 * k) (999, 0) = (3, 7) ∧ layL.getD (71 + 27 * k) (999, 0) = (0, 4) ∧ layL.getD (79 + 27 * k) (999, 0) = (2, 5) ∧ layL.getD (84 + 27 * k) (999, 0) = (7, 5) ∧ layL.getD (85 + 27 * k) (999, 0) = (0, 4) ∧ layL.getD (92 + 27 * k) (999, 0) = (10, 7) := by decide +kernel
    obtain ⟨a1, a2, a3, a4, a5, a6⟩ := hd k hk
    exact ⟨lyL κ _ _ _ a1, lyL κ _ _ _ a2, lyL κ _ _ _ a3, lyL κ _ _ _ a4, lyL κ _ _ _ a5, lyL κ _ _ _ a6⟩
theorem RT_6 {κ : Kp} {q n j : Nat} (hl : lay κ q = (6, n)) (hj : ft 6 j = 2) : RT κ q j = if j = 0 then some (kB κ + 1) else if j = 5 then some (kB κ + 3) else some (kK κ 0) := by
  unfold RT
  rw [hl]
  show (if (6 : Nat) < 50 then (match ft 6 j with | 0 => none | 1 => none | 2 => _ | d + 3 => some (q + d)) else _) = _
  rw [if_pos (by decide), hj]
  rfl
theorem fs_fix {κ : Ko} {st : AS} (h : FSH κ st) : FIX κ st := by
  refine ⟨fun i hi => ?_, fun k hk => ?_, fun k i hk hi => ?_⟩
  · rw [h.r 22 i (by omega), RT_59 (lyL κ 22 59 6 (by decide +kernel)), if_pos hi]
    unfold HA
    exact congrArg some (by omega)
  · rw [h.r 53 k (by omega), RT_58 (lyL κ 53 58 4 (by decide +kernel)), if_pos hk]
    unfold PA
    exact congrArg some (by omega)
  · have hd : ∀ k, k < 4 → layL.getD (233 + 32 * k) (999, 0) = (59, 6) := by decide +kernel
    have e1 : PA κ k + 1 = kB (kt κ) + (233 + 32 * k) := by unfold PA; omega
    rw [e1, h.r (233 + 32 * k) i (by omega), RT_59 (lyL κ _ _ _ (hd k hk)), if_pos hi]
    unfold IA
    exact congrArg some (by omega)
theorem fs_tap {κ : Ko} {st : AS} (h : FSH κ st) : TAP κ st st (QQ κ) 0 (fun _ => 0) := by
  have hl := lyL κ 2 6 7 (by decide +kernel)
  refine ⟨⟨?_, lyL κ 1 50 400 (by decide +kernel), by omega, fun k hk => by omega, by omega⟩, h.2.1 _ _, ⟨h.2.1 _ _, by omega, fun k hk => by omega⟩, kB (kt κ) + 3, 0, ?_, ?_⟩
  · rw [h.r 2 0 (by omega), RT_6 hl (by decide), if_pos rfl]
  · rw [h.r 2 5 (by omega), RT_6 hl (by decide), if_neg (by omega), if_pos rfl]
  · rw [h.r 2 6 (by omega), RT_6 hl (by decide), if_neg (by omega), if_neg (by omega)]
theorem fs_GR {κ : Ko} {st : AS} (h : FSH κ st) : GR κ st st := by
  refine ⟨fun _ => 0, 0, fun _ => 0, 0, ⟨fs_txk h, ⟨fun s hs => ⟨Nat.zero_le _, h.2.1 _ _, h.2.1 _ _⟩, fun k hk => absurd hk (Nat.not_lt_zero _), fun k hk => absurd hk (Nat.not_lt_zero _), fun k hk => absurd hk (Nat.not_lt_zero _), fun k hk => absurd hk (Nat.not_lt_zero _)⟩, fs_tap h, fs_fix h, by omega, h.2.1 _ _, h.2.1 _ _, fun p hp => h.2.1 _ _, fun k hk => ⟨Or.inl (h.2.1 _ _), (h.2.1 _ _).trans (h.2.1 _ _).symm, fun h1 => ?_⟩⟩, fun i hi => absurd hi (by omega)⟩
  rw [h.2.1] at h1
  exact absurd h1 (by decide)
/-- both objects made: every reference as in the end -/
theorem FSH.of {κ : Ko} {s1 s2 : AS} (h1 : CP (kf κ) 0 360 Z0 s1) (h2 : CP (kf κ) 360 24 s1 s2) : FSH κ s2 := by
  refine ⟨fun p k1 k2 j => ?_, fun p j => (h2.2.2.1 p j).trans (h1.2.2.1 p j), fun p j => (h2.2.2.2.1 p j).trans (h1.2.2.2.1 p j)⟩
  by_cases e : p < kB (kt κ) + 360
  · exact (h2.2.1 p e j).trans (h1.1 p k1 (by
      show p < kB (kt κ) + (0 + 360)
      omega) j)
  · exact h2.1 p (by
      show kB (kt κ) + 360 ≤ p
      omega) k2 j
