/-! what a told law tells: the clauses gone through -/
def hol (w : Nat → Int64) (L : List (Nat × Nat)) (c : c4) : Bool := decide (c.2.2.2 = c.2.2.1) || !decide (evv w (sg L c.2.2.1 c.2.2.2) = 0)
/-- the first clause of a sort that holds, from i on -/
def thI (w : Nat → Int64) (L : List (Nat × Nat)) (so : Nat) (K : List c4) : Nat → Nat → Option Nat
  | 0, _ => none
  | n + 1, i => if (kg K i).1 = so then (if hol w L (kg K i) = true then some i else thI w L so K n (i + 1)) else thI w L so K n (i + 1)
theorem thI_lt {w : Nat → Int64} {L : List (Nat × Nat)} {so : Nat} {K : List c4} : ∀ n i j, thI w L so K n i = some j → i ≤ j ∧ j < i + n
  | 0, i, j, h => (nomatch h)
  | n + 1, i, j, h => by
    rw [thI] at h
    split at h
    · split at h
      · cases h; omega
      · have := thI_lt n (i + 1) j h; omega
    · have := thI_lt n (i + 1) j h; omega
/-- the sum of a clause -/
def smv (w : Nat → Int64) (L : List (Nat × Nat)) (c : c4) : Int64 := evv w (sg L c.2.1 c.2.2.1)
def LWD (ds : AS) (a1 : Nat) (L : List (Nat × Nat)) (K : List c4) : Prop := CDL ds (a1 + 1) L ∧ KD ds a1 K
def LWQ (rs : AS) (q t : Nat) (L : List (Nat × Nat)) (K : List c4) : Prop := CRL rs q t L ∧ KQ rs q t K
theorem LWD.of {ds ds' : AS} {a1 : Nat} {L : List (Nat × Nat)} {K : List c4} (h : LWD ds a1 L K) (hw : Same (fun p _ => p = a1 + 1 + 3) ds ds') : LWD ds' a1 L K :=
  ⟨h.1.of hw (fun z => by omega) (fun j z => by omega) (fun j z => by omega), h.2.of hw (fun z => by omega) (fun j d _ _ z => by omega)⟩
theorem LWQ.of {rs rs' : AS} {q t : Nat} {L : List (Nat × Nat)} {K : List c4} (h : LWQ rs q t L K) (hw : Same (rkW q) rs rs') : LWQ rs' q t L K :=
  ⟨h.1.of hw (fun z => by unfold rkW at z; omega) (fun j z => by unfold rkW at z; omega), h.2.of hw (fun z => by unfold rkW at z; omega) (fun j _ z => by unfold rkW at z; omega)⟩
theorem kg_mem {K : List c4} {i : Nat} (h : i < K.length) : kg K i ∈ K := by
  unfold kg
  rw [List.getD_eq_getElem?_getD, List.getElem?_eq_getElem h]
  exact List.getElem_mem h
section Tells
variable {κ : Ko} {L : List (Nat × Nat)} {K : List c4} {w : Nat → Int64} {a1 a3 q t : Nat}
noncomputable def tvD (lo hi : Int32) (v : Int64) : Int32 := ((lmax lo.toInt64 (lmin hi.toInt64 v)) : Int64).toInt32
noncomputable def kTl (κ : Ko) (v10 : Nat) (v12 n14 : Nat) (v15 v16 v17 v18 : Int32) (s19 : AS) : Option (Int32 × AS) := bnd2 (f_Cd_valueOf κ (v10 + 1) (gat (gi s19 (v10 + 6)) 12 v17) v18 v12 n14 s19) (fun v20 s21 => some (((lmax ((v15 : Int32).toInt64) (lmin ((v16 : Int32).toInt64) v20)) : Int64).toInt32, s21))
theorem kTl_v {ds : AS} (hD : LWD ds a1 L K) (hk : typd L) (hl : ∀ c, c ∈ K → lawC L c) (ha : a3 ≠ a1 + 1 + 3) (hw : ∀ v, v < 8 → gl ds a3 v = w v) {i : Nat} (hi : i < K.length) (lo hi' : Int32) : ∃ ds', kTl κ a1 a3 8 lo hi' (nI i) (nI (kg K i).2.2.1) ds = some (tvD lo hi' (smv w L (kg K i)), ds') ∧ Same (fun p _ => p = a1 + 1 + 3) ds ds' := by
  have h12 := hD.2.2.1
  obtain ⟨X, Y, hL, e1, e2, e3⟩ := (hl _ (kg_mem hi)).sum w
  obtain ⟨-, g6, g7, -⟩ := hD.2.2.2 i hi
  obtain ⟨ds', r1, r2⟩ := d_reg (κ := κ) hD.1 hk hL ha hw e3
  rw [← e2, ← e1] at r1
  unfold kTl
  rw [gat_n (i := nI i) (j := i) rfl (by omega) (by decide), g6, r1, bnd2_t]
  exact ⟨ds', rfl, r2⟩
theorem d_tellsL {so : Nat} (hso : so < 2) (hk : typd L) (hl : ∀ c, c ∈ K → lawC L c) (ha : a3 ≠ a1 + 1 + 3) (lo hi' df : Int32) : ∀ n i d ds, i + n = K.length → n < d → LWD ds a1 L K → (∀ v, v < 8 → gl ds a3 v = w v) → ∃ ds', L_Lw_tells_3 κ (kTl κ) d a1 (nI so) a3 8 lo hi' df (nI i) ds = some ((match thI w L so K n i with | none => df | some j => tvD lo hi' (smv w L (kg K j))), ds') ∧ Same (fun p _ => p = a1 + 1 + 3) ds ds' := by
  intro n
  induction n with
  | zero =>
    intro i d ds hi hd hD hw
    obtain ⟨d, rfl⟩ : ∃ e, d = e + 1 := ⟨d - 1, by omega⟩
    have h12 := hD.2.2.1
    rw [L_Lw_tells_3, hD.2.1, if_pos (nI_le (by omega) (by omega))]
    exact ⟨ds, rfl, Same.rf _ _⟩
  | succ n ih =>
    intro i d ds hi hd hD hw
    obtain ⟨d, rfl⟩ : ∃ e, d = e + 1 := ⟨d - 1, by omega⟩
    have h12 := hD.2.2.1
    have h400 := hD.1.2.1
    have hlc := hl _ (kg_mem (i := i) (by omega))
    have hle := hlc.le
    obtain ⟨g5, g6, g7, g8⟩ := hD.2.2.2 i (by omega)
    have hG : ∀ dd, gat (gi ds (a1 + dd)) 12 (nI i) = gi ds (a1 + dd) i := fun dd => gat_n rfl (by omega) (by decide)
    rw [L_Lw_tells_3, hD.2.1, if_neg (nI_ge (by omega) (by omega)), hG, hG, hG, g5, g7, g8, thI]
    simp only [jn_e, nI_1]
    by_cases h1 : (kg K i).1 = so
    · rw [if_pos (show nI (kg K i).1 = nI so by rw [h1]), if_pos h1]
      by_cases h2 : (kg K i).2.2.2 = (kg K i).2.2.1
      · rw [if_pos (show nI (kg K i).2.2.1 = nI (kg K i).2.2.2 by rw [h2])]
        have hh : hol w L (kg K i) = true := by unfold hol; rw [decide_eq_true h2]; rfl
        rw [if_pos hh]
        exact kTl_v hD hk hl ha hw (by omega) lo hi'
      · rw [if_neg (show ¬ nI (kg K i).2.2.1 = nI (kg K i).2.2.2 from fun z => h2 ((nI_eq (by omega) (by omega)).mp z).symm)]
        obtain ⟨X, Y, hL, e1, e2, e3⟩ := hlc.test w
        rcases e3 with e3 | ⟨e3, e4⟩
        · exact absurd e3 h2
        · obtain ⟨s2, r1, r2⟩ := d_reg (κ := κ) hD.1 hk hL ha hw e3
          rw [← e2, ← e1] at r1
          rw [r1, bnd2_t]
          have hD2 := hD.of r2
          have hw2 : ∀ v, v < 8 → gl s2 a3 v = w v := fun v hv => by rw [(r2 _ _ ha).2.1]; exact hw v hv
          by_cases h3 : evv w (sg L (kg K i).2.2.1 (kg K i).2.2.2) = 0
          · have hh : ¬ hol w L (kg K i) = true := by unfold hol; rw [decide_eq_false h2, decide_eq_true h3]; decide
            rw [if_pos h3, if_neg hh]
            obtain ⟨ds', y1, y2⟩ := ih (i + 1) d s2 (by omega) (by omega) hD2 hw2
            exact ⟨ds', y1, r2.tr y2⟩
          · have hh : hol w L (kg K i) = true := by unfold hol; rw [decide_eq_false h2, decide_eq_false h3]; rfl
            rw [if_neg h3, if_pos hh]
            obtain ⟨ds', y1, y2⟩ := kTl_v (κ := κ) hD2 hk hl ha hw2 (i := i) (by omega) lo hi'
            exact ⟨ds', y1, r2.tr y2⟩
    · rw [if_neg (show ¬ nI (kg K i).1 = nI so from fun z => h1 ((nI_eq (by omega) (by omega)).mp z)), if_neg h1]
      obtain ⟨ds', y1, y2⟩ := ih (i + 1) d ds (by omega) (by omega) hD hw
      exact ⟨ds', y1, y2⟩
theorem d_tells {ds : AS} {so : Nat} (hso : so < 2) (hD : LWD ds a1 L K) (hk : typd L) (hl : ∀ c, c ∈ K → lawC L c) (ha : a3 ≠ a1 + 1 + 3) (hw : ∀ v, v < 8 → gl ds a3 v = w v) (lo hi' df : Int32) : ∃ ds', f_Lw_tells κ a1 (nI so) a3 8 lo hi' df ds = some ((match thI w L so K K.length 0 with | none => df | some j => tvD lo hi' (smv w L (kg K j))), ds') ∧ Same (fun p _ => p = a1 + 1 + 3) ds ds' :=
  d_tellsL hso hk hl ha lo hi' df K.length 0 FU ds (Nat.zero_add _) (by have := hD.2.2.1; exact FUn (by omega)) hD hw
end Tells
