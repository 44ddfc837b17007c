/-! most neighbours, the heart: both classes -/
noncomputable def hrK : Int32 → Int32 → Int32 → AS → Option (Int32 × AS) := fun v10 v11 v12 s13 => some ((if v10 = 0 then v11 else v12 : Int32), s13)
section Heart
variable {κ : Ko} {q s Z : Nat} {S : Nat → Int32} {dt rt : AS}
theorem r_besideL (hR : rw_ rt q s = S) (hk : SOK S) (hs : s < 7) {f : Nat} (hf : f < nF S) : ∀ n g d, g + n = nF S → n < d → L_R_besideOf_5 κ rt d q (nI s) (nI f) (nI (cnt (adj S f) g)) (nI g) = some (nI (cnt (adj S f) (nF S)))
  | 0, g, d, hg, hd => by
    obtain ⟨d, rfl⟩ : ∃ z, d = z + 1 := ⟨d - 1, by omega⟩
    have hF := sok_6 hk
    rw [L_R_besideOf_5, rs_any (k := 6) (y := 6) hR hs (by decide) rfl, bnd_t, hF.1, if_pos (nI_le (by omega) (by omega)), show g = nF S by omega]
  | n + 1, g, d, hg, hd => by
    obtain ⟨d, rfl⟩ : ∃ z, d = z + 1 := ⟨d - 1, by omega⟩
    have hF := sok_6 hk
    have hg' : g < nF S := by omega
    have ih := r_besideL hR hk hs hf n (g + 1) d (by omega) (by omega)
    have q1 : (nI g = nI f) = (g = f) := propext (nI_eq (by omega) (by omega))
    rw [L_R_besideOf_5, rs_any (k := 6) (y := 6) hR hs (by decide) rfl, bnd_t, hF.1, if_neg (nI_ge hg' (by omega)), r_bsdS hR hk hs hf hg']
    simp only [jn_e, q1, bnd_t]
    rw [Int32.add_zero, nI_1, nI_1]
    by_cases e : g = f
    · have ha : adj S f g = false := by unfold adj; rw [decide_eq_true e]; rfl
      rw [if_pos e]
      rw [cnt_s, ha] at ih
      exact ih
    · rw [if_neg e]
      by_cases hb : bsd S f g = true
      · have ha : adj S f g = true := by unfold adj; rw [decide_eq_false e, hb]; rfl
        rw [if_pos hb, if_neg (by decide)]
        rw [cnt_s, if_pos ha] at ih
        exact ih
      · have hb' : bsd S f g = false := by revert hb; cases bsd S f g <;> decide
        have ha : adj S f g = false := by unfold adj; rw [hb', Bool.and_false]
        rw [if_neg hb, if_pos rfl]
        rw [cnt_s, ha] at ih
        exact ih
theorem r_beside (hR : rw_ rt q s = S) (hk : SOK S) (hs : s < 7) {f : Nat} (hf : f < nF S) : f_R_besideOf κ q (nI s) (nI f) rt = some (nI (cnt (adj S f) (nF S))) :=
  r_besideL hR hk hs hf (nF S) 0 FU (by omega) (FUn (by have := sok_6 hk; omega))
theorem d_beside (hN : NB dt Z S) (hk : SOK S) {f : Nat} (hf : f < nF S) : f_Nb_countOf κ Z (nI f) dt = nI (cnt (adj S f) (nF S)) := by
  have hF := sok_6 hk
  unfold f_Nb_countOf
  rw [nI_1, gat_n (j := f + 1) rfl (by omega) (by decide), gat_n (j := f) rfl (by omega) (by decide), hN.2.1 (f + 1) (by omega), hN.2.1 f (by omega), stN_s, nI_sub (by omega), Nat.add_sub_cancel_left]
theorem q_mostL (hN : NB dt Z S) (hR : rw_ rt q s = S) (hk : SOK S) (hs : s < 7) : ∀ n i d d' b, i + n = nF S → n < d → n < d' → b < nF S → Both (L_Nb_richest_4 κ dt d Z (nI b) (nI i)) (L_R_most_22 κ rt d' q (nI s) (nI b) (nI (cnt (adj S b) (nF S))) (nI i))
  | 0, i, d, d', b, hi, hd, hd', hb => by
    obtain ⟨d, rfl⟩ : ∃ z, d = z + 1 := ⟨d - 1, by omega⟩
    obtain ⟨d', rfl⟩ : ∃ z, d' = z + 1 := ⟨d' - 1, by omega⟩
    have hF := sok_6 hk
    rw [L_Nb_richest_4, L_R_most_22, hN.1, if_pos (nI_le (by omega) (by omega)), rs_any (k := 6) (y := 6) hR hs (by decide) rfl, bnd_t, hF.1, if_pos (nI_le (by omega) (by omega))]
    exact Both.mk _
  | n + 1, i, d, d', b, hi, hd, hd', hb => by
    obtain ⟨d, rfl⟩ : ∃ z, d = z + 1 := ⟨d - 1, by omega⟩
    obtain ⟨d', rfl⟩ : ∃ z, d' = z + 1 := ⟨d' - 1, by omega⟩
    have hF := sok_6 hk
    have hi' : i < nF S := by omega
    have c1 := cnt_le (adj S i) (nF S)
    have c2 := cnt_le (adj S b) (nF S)
    rw [L_Nb_richest_4, L_R_most_22, hN.1, if_neg (nI_ge hi' (by omega)), rs_any (k := 6) (y := 6) hR hs (by decide) rfl, bnd_t, hF.1, if_neg (nI_ge hi' (by omega)), d_beside hN hk hi', d_beside hN hk hb, r_beside hR hk hs hi', bnd_t, nI_1]
    by_cases e : cnt (adj S i) (nF S) ≤ cnt (adj S b) (nF S)
    · have l1 : ¬ nI (cnt (adj S b) (nF S)) < nI (cnt (adj S i) (nF S)) := fun z => by have := (nI_ltI (by omega) (by omega)).mp z; omega
      rw [if_pos (nI_le e (by omega)), if_neg l1, if_neg l1]
      exact q_mostL hN hR hk hs n (i + 1) d d' b (by omega) (by omega) (by omega) hb
    · have l1 : nI (cnt (adj S b) (nF S)) < nI (cnt (adj S i) (nF S)) := (nI_ltI (by omega) (by omega)).mpr (by omega)
      rw [if_neg (nI_ge (by omega) (by omega)), if_pos l1, if_pos l1]
      exact q_mostL hN hR hk hs n (i + 1) d d' i (by omega) (by omega) (by omega) hi'
theorem q_most (hN : NB dt Z S) (hR : rw_ rt q s = S) (hk : SOK S) (hs : s < 7) : Both (f_Nb_richest κ Z dt) (bnd (f_R_besideOf κ q (nI s) 0 rt) (fun v1 => L_R_most_22 κ rt FU q (nI s) 0 v1 1)) := by
  have hF := sok_6 hk
  have e0 : f_R_besideOf κ q (nI s) 0 rt = some (nI (cnt (adj S 0) (nF S))) := r_beside hR hk hs (f := 0) (by omega)
  rw [e0, bnd_t]
  exact q_mostL hN hR hk hs (nF S - 1) 1 FU FU 0 (by omega) (FUn (by omega)) (FUn (by omega)) (by omega)
/-- the walk's answer is the reference's of that facet at some state -/
def wkAt (κ : Ko) (q s : Nat) (S : Nat → Int32) (u : Nat) (c : Int32) : Prop := ∃ rb wb, rw_ rb q s = S ∧ f_R_walks κ q (nI s) (nI u) rb = some (c, wb)
def bestW (κ : Ko) (q s : Nat) (S : Nat → Int32) (i : Nat) (b c b' c' : Int32) : Prop := (i = 0 ∧ b = -1 + 1 ∧ c = 2147483647 ∧ b' = -1) ∨ ∃ u m, m ≤ 200 ∧ u < i ∧ b = nI u ∧ b' = nI u ∧ c = nI m ∧ c' = nI m ∧ wkAt κ q s S u (nI m)
theorem q_heartL (hk : SOK S) (hs : s < 7) (x2 : Int32) : ∀ n i d d' b c b' c' dt rt, i + n = nF S → n < d → n < d' → NB dt Z S → rw_ rt q s = S → bestW κ q s S i b c b' c' →
    ∃ (v w : Int32) (dt' rt' : AS), L_Nb_middle_7 κ d Z b c (nI i) dt = some (v, dt') ∧ L_R_heart_28 κ hrK d' q (nI s) x2 b' c' (nI i) rt = some ((if x2 = 0 then v else w), rt') ∧ (∃ u, u < nF S ∧ v = nI u ∧ wkAt κ q s S u w) ∧ NB dt' Z S ∧ Same (fun p _ => wkD Z p) dt dt' ∧ Same (fun p _ => wkQ q p) rt rt'
  | 0, i, d, d', b, c, b', c', dt, rt, hi, hd, hd', hN, hR, hb => by
    obtain ⟨d, rfl⟩ : ∃ z, d = z + 1 := ⟨d - 1, by omega⟩
    obtain ⟨d', rfl⟩ : ∃ z, d' = z + 1 := ⟨d' - 1, by omega⟩
    have hF := sok_6 hk
    rcases hb with ⟨h0, -⟩ | ⟨u, m, hm, hu, rfl, rfl, rfl, rfl, hw⟩
    · omega
    · rw [L_Nb_middle_7, L_R_heart_28, hN.1, if_pos (nI_le (by omega) (by omega)), rs_any (k := 6) (y := 6) hR hs (by decide) rfl, bnd_t, hF.1, if_pos (nI_le (by omega) (by omega))]
      exact ⟨nI u, nI m, dt, rt, rfl, rfl, ⟨u, by omega, rfl, hw⟩, hN, Same.rf _ _, Same.rf _ _⟩
  | n + 1, i, d, d', b, c, b', c', dt, rt, hi, hd, hd', hN, hR, hb => by
    obtain ⟨d, rfl⟩ : ∃ z, d = z + 1 := ⟨d - 1, by omega⟩
    obtain ⟨d', rfl⟩ : ∃ z, d' = z + 1 := ⟨d' - 1, by omega⟩
    have hF := sok_6 hk
    have hi' : i < nF S := by omega
    obtain ⟨v, d2, r2, D', z1, z2, ⟨m, rfl, hm⟩, z4, z5, z6⟩ := q_walk (κ := κ) hk hs hN hR hi'
    have hwi : wkAt κ q s S i (nI m) := ⟨rt, r2, hR, z2⟩
    have ih := fun b c b' c' hb' => q_heartL hk hs x2 n (i + 1) d d' b c b' c' d2 r2 (by omega) (by omega) (by omega) (hN.fr z5) (rw_fr hR z6 (fun j z => by unfold wkQ at z; omega)) hb'
    have res : ∀ b c b' c', bestW κ q s S (i + 1) b c b' c' → ∃ (v w : Int32) (dt' rt' : AS), L_Nb_middle_7 κ d Z b c (nI (i + 1)) d2 = some (v, dt') ∧ L_R_heart_28 κ hrK d' q (nI s) x2 b' c' (nI (i + 1)) r2 = some ((if x2 = 0 then v else w), rt') ∧ (∃ u, u < nF S ∧ v = nI u ∧ wkAt κ q s S u w) ∧ NB dt' Z S ∧ Same (fun p _ => wkD Z p) dt dt' ∧ Same (fun p _ => wkQ q p) rt rt' := fun b c b' c' hb' => by
      obtain ⟨v, w, d3, r3, y1, y2, y3, y4, y5, y6⟩ := ih b c b' c' hb'
      exact ⟨v, w, d3, r3, y1, y2, y3, y4, z5.tr y5, z6.tr y6⟩
    rw [L_Nb_middle_7, L_R_heart_28, hN.1, if_neg (nI_ge hi' (by omega)), rs_any (k := 6) (y := 6) hR hs (by decide) rfl, bnd_t, hF.1, if_neg (nI_ge hi' (by omega)), z1, z2, bnd2_t, bnd2_t, jn_e, nI_1]
    rcases hb with ⟨h0, rfl, rfl, rfl⟩ | ⟨u, m', hm', hu, rfl, rfl, rfl, rfl, hw⟩
    · have : ¬ (2147483647 : Int32) ≤ nI m := nI_ge (b := 2147483647) (by omega) (by decide)
      rw [if_neg this, if_neg this, if_pos (show (-1 : Int32) < 0 by decide)]
      exact res _ _ _ _ (Or.inr ⟨i, m, by omega, by omega, rfl, rfl, rfl, rfl, hwi⟩)
    · have hn : ¬ nI u < 0 := fun z => by have := (nI_ltk (m := u) (k := 0) (y := 0) rfl (by omega) (by decide)).1.mp z; omega
      rw [if_neg hn]
      by_cases e : m' ≤ m
      · rw [if_pos (nI_le e (by omega)), if_pos (nI_le e (by omega)), if_neg (fun z => by have := (nI_ltI (by omega) (by omega)).mp z; omega)]
        exact res _ _ _ _ (Or.inr ⟨u, m', hm', by omega, rfl, rfl, rfl, rfl, hw⟩)
      · have l1 : nI m < nI m' := (nI_ltI (by omega) (by omega)).mpr (by omega)
        rw [if_neg (nI_ge (by omega) (by omega)), if_neg (nI_ge (by omega) (by omega)), if_pos l1]
        exact res _ _ _ _ (Or.inr ⟨i, m, by omega, by omega, rfl, rfl, rfl, rfl, hwi⟩)
theorem q_heart (hN : NB dt Z S) (hR : rw_ rt q s = S) (hk : SOK S) (hs : s < 7) (x2 : Int32) : ∃ v dt' rt', bnd2 (f_Nb_middle κ Z dt) (fun v5 s6 => if x2 = 0 then some (v5, s6) else bnd2 (f_Nb_walkFrom κ Z v5 s6) (fun v7 s8 => some (v7, s8))) = some (v, dt') ∧ L_R_heart_28 κ hrK FU q (nI s) x2 (-1) 0 0 rt = some (v, rt') ∧ Same (fun p _ => wkD Z p) dt dt' ∧ Same (fun p _ => wkQ q p) rt rt' := by
  have hF := sok_6 hk
  obtain ⟨v, w, d2, r2, z1, z2, ⟨u, hu, rfl, rb, wb, hrb, hwb⟩, z4, z5, z6⟩ := q_heartL (κ := κ) (Z := Z) hk hs x2 (nF S) 0 FU FU 0 2147483647 (-1) 0 dt rt (by omega) (FUn (by omega)) (FUn (by omega)) hN hR (Or.inl ⟨rfl, rfl, rfl, rfl⟩)
  have z1' : f_Nb_middle κ Z dt = some (nI u, d2) := z1
  have z2' : L_R_heart_28 κ hrK FU q (nI s) x2 (-1) 0 0 rt = some ((if x2 = 0 then nI u else w), r2) := z2
  rw [z1', bnd2_t, z2']
  by_cases e : x2 = 0
  · rw [if_pos e, if_pos e]
    exact ⟨nI u, d2, r2, rfl, rfl, z5, z6⟩
  · rw [if_neg e, if_neg e]
    obtain ⟨v', d3, r3, D', y1, y2, y3, y4, y5, y6⟩ := q_walk (κ := κ) hk hs z4 hrb hu
    have ew : v' = w := by
      rw [hwb] at y2
      exact (congrArg Prod.fst (Option.some.inj y2)).symm
    rw [y1, bnd2_t, ew]
    exact ⟨w, d3, r2, rfl, rfl, z5.tr y5, z6⟩
end Heart
