/-! what is expected, both classes -/
/-- what a told law is, a side each -/
def LWT (L : List (Nat × Nat)) (K : List c4) : Prop := typd L ∧ ∀ c, c ∈ K → lawC L c
noncomputable def exv (S : Nat → Int32) (L : List (Nat × Nat)) (K : List c4) (rd tg tot : Int32) (by_ : Bool) (f : Nat) (t : Int32) : Int32 := if lngS S f < 2 then t else t + brk (wdS S f rd tg tot) L K * (if by_ = true then shtS S f else 1)
/-- summed over n facets from f on -/
noncomputable def exs (S : Nat → Int32) (L : List (Nat × Nat)) (K : List c4) (rd tg tot : Int32) (by_ : Bool) : Nat → Nat → Int32 → Int32
  | 0, _, t => t
  | n + 1, f, t => exs S L K rd tg tot by_ n (f + 1) (exv S L K rd tg tot by_ f t)
def exW (a l p : Nat) : Prop := p = a + 4 ∨ p = l + 1 + 3
section Expects
variable {κ : Ko} {a q s l : Nat} {S : Nat → Int32} {L : List (Nat × Nat)} {K : List c4}
theorem LWD.fr {ds ds' : AS} {a1 : Nat} (h : LWD ds a1 L K) {W : Nat → Nat → Prop} (hw : Same W ds ds') (h0 : ∀ p j, a1 ≤ p → p ≤ a1 + 8 → p ≠ a1 + 4 → ¬ W p j) : LWD ds' a1 L K :=
  ⟨h.1.of hw (h0 _ _ (by omega) (by omega) (by omega)) (fun j => h0 _ _ (by omega) (by omega) (by omega)) (fun j => h0 _ _ (by omega) (by omega) (by omega)), h.2.of hw (h0 _ _ (by omega) (by omega) (by omega)) (fun j d _ _ => h0 _ _ (by omega) (by omega) (by omega))⟩
theorem LWQ.fr {rs rs' : AS} {t : Nat} (h : LWQ rs q t L K) {V : Nat → Nat → Prop} (hw : Same V rs rs') (nv : ∀ p j, tgQ q t p j → ¬ V p j) : LWQ rs' q t L K := ⟨h.1.reg hw nv, h.2.reg hw nv⟩
theorem sok_6 (h : SOK S) : S 6 = nI (nF S) ∧ nF S ≤ 200 ∧ 1 ≤ nF S := have := (h.1.2.2.2.2.2.2.1).cl (by decide); ⟨this.1, this.2.2, this.2.1⟩
theorem sok_7 (h : SOK S) : S 7 = nI (nR S) ∧ nR S ≤ 400 := have := (h.1.2.2.2.2.2.2.2.1).cl (by decide); ⟨this.1, this.2.2⟩
theorem sok_2 (h : SOK S) : S 2 = nI (S 2).toNatClampNeg ∧ (S 2).toNatClampNeg ≤ 5 := have := (h.1.2.2.1).cl (by decide); ⟨this.1, this.2.2⟩
theorem d_expL (hk : SOK S) (hL : LWT L K) (ha : a + 4 < LA κ (S 2).toNatClampNeg ∨ LA κ (S 2).toNatClampNeg + 8 < a) (tg tot x3 : Int32) : ∀ n f d t dt, f + n = nF S → n < d → ShD κ dt a S → LWD dt (LA κ (S 2).toNatClampNeg) L K →
    ∃ dt', L_Sh_expectedBreaks_6 κ d a tg tot x3 t (nI f) dt = some (exs S L K (S 5 + 1) tg tot (!decide (x3 = 0)) n f t, dt') ∧ Same (fun p _ => exW a (LA κ (S 2).toNatClampNeg) p) dt dt' := by
  intro n
  induction n with
  | zero =>
    intro f d t dt hf hd h hl
    obtain ⟨d, rfl⟩ : ∃ e, d = e + 1 := ⟨d - 1, by omega⟩
    rw [L_Sh_expectedBreaks_6, h.2.1.2.2.2.2.2.1, (sok_6 hk).1, if_pos (nI_le (by omega) (by have := (sok_6 hk).2; omega))]
    exact ⟨dt, rfl, Same.rf _ _⟩
  | succ n ih =>
    intro f d t dt hf hd h hl
    obtain ⟨d, rfl⟩ : ∃ e, d = e + 1 := ⟨d - 1, by omega⟩
    have hn6 := sok_6 hk
    rw [L_Sh_expectedBreaks_6, h.2.1.2.2.2.2.2.1, (sok_6 hk).1, if_neg (nI_ge (by omega) (by omega)), d_longS h hk (by omega), bnd_t, h.2.1.2.2.2.2.1, nI_1, exs]
    by_cases h2 : lngS S f < 2
    · rw [if_pos h2, show exv S L K (S 5 + 1) tg tot (!decide (x3 = 0)) f t = t from if_pos h2]
      exact ih (f + 1) d t dt (by omega) (by omega) h hl
    · obtain ⟨d1, e1, g1, w1⟩ := d_words (κ := κ) (f := f) h hk (by omega) tg (S 5 + 1) tot
      have h1 := h.fr w1 (fun p j _ _ z => by omega)
      have hl1 := hl.fr w1 (fun p j _ _ _ z => by omega)
      obtain ⟨d2, e2, w2⟩ := d_breaks (κ := κ) (a3 := a + 4) hl1 hL.1 hL.2 (by omega) g1
      have h22 := h1.fr w2 (fun p j _ _ z => by omega)
      have hl2 := hl1.of w2
      have w12 : Same (fun p _ => exW a (LA κ (S 2).toNatClampNeg) p) dt d2 := (w1.mono (fun _ _ z => Or.inl z)).tr (w2.mono (fun _ _ z => Or.inr z))
      rw [if_neg h2, e1, bnd_t, h1.2.2.1, bnd_t, grd_t (LA_ly (by have := (sok_2 hk).2; omega)), e2, bnd2_t]
      by_cases h3 : x3 = 0
      · have hex : exv S L K (S 5 + 1) tg tot (!decide (x3 = 0)) f t = t + brk (wdS S f (S 5 + 1) tg tot) L K * 1 := by
          unfold exv
          rw [if_neg h2, decide_eq_true h3, if_neg (by decide)]
        rw [if_pos h3, hex]
        obtain ⟨d3, e3, w3⟩ := ih (f + 1) d (t + brk (wdS S f (S 5 + 1) tg tot) L K * 1) d2 (by omega) (by omega) h22 hl2
        exact ⟨d3, e3, w12.tr w3⟩
      · have hex : exv S L K (S 5 + 1) tg tot (!decide (x3 = 0)) f t = t + brk (wdS S f (S 5 + 1) tg tot) L K * shtS S f := by
          unfold exv
          rw [if_neg h2, decide_eq_false h3, if_pos (by decide)]
        rw [if_neg h3, hex, d_shortS h22 hk (by omega), bnd_t]
        obtain ⟨d3, e3, w3⟩ := ih (f + 1) d (t + brk (wdS S f (S 5 + 1) tg tot) L K * shtS S f) d2 (by omega) (by omega) h22 hl2
        exact ⟨d3, e3, w12.tr w3⟩
def exQ (q p j : Nat) : Prop := p = q + 12 ∨ p = q + 13 ∨ p = q ∧ j = 21
theorem rk_exQ {s1 s2 : AS} (h : Same (rkW q) s1 s2) : Same (exQ q) s1 s2 := h.mono (fun _ _ z => by unfold rkW at z; unfold exQ; omega)
theorem rw_fr {rt rt' : AS} {V : Nat → Nat → Prop} (h : rw_ rt q s = S) (hw : Same V rt rt') (nv : ∀ j, ¬ V (q + 14) j) : rw_ rt' q s = S := by
  rw [← h]
  funext k
  exact (hw _ _ (nv _)).1
theorem rs_any {rt : AS} (h : rw_ rt q s = S) (hs : s < 7) {k : Nat} {y : Int32} (hk : k < 3680) (hy : y = nI k) : f_R_sheetOf κ q (nI s) y rt = some (S k) := by
  rw [← h]
  exact r_sheet hs hk hy
theorem r_expL (hk : SOK S) (hL : LWT L K) (hs : s < 7) (tg tot x3 : Int32) : ∀ n f d t rt, f + n = nF S → n < d → rw_ rt q s = S → LWQ rt q (S 2).toNatClampNeg L K →
    ∃ rt', L_R_expects_13 κ d q (nI s) tg x3 tot t (nI f) rt = some (exs S L K (S 5 + 1) tg tot (decide (x3 = 0)) n f t, rt') ∧ Same (exQ q) rt rt' := by
  intro n
  induction n with
  | zero =>
    intro f d t rt hf hd h hl
    obtain ⟨d, rfl⟩ : ∃ e, d = e + 1 := ⟨d - 1, by omega⟩
    rw [L_R_expects_13, rs_any (k := 6) (y := 6) h hs (by decide) rfl, bnd_t, (sok_6 hk).1, if_pos (nI_le (by omega) (by have := (sok_6 hk).2; omega))]
    exact ⟨rt, rfl, Same.rf _ _⟩
  | succ n ih =>
    intro f d t rt hf hd h hl
    obtain ⟨d, rfl⟩ : ∃ e, d = e + 1 := ⟨d - 1, by omega⟩
    have hn6 := sok_6 hk
    rw [L_R_expects_13, rs_any (k := 6) (y := 6) h hs (by decide) rfl, bnd_t, (sok_6 hk).1, if_neg (nI_ge (by omega) (by omega)), r_longS h hk hs (by omega), bnd_t, nI_1, exs]
    by_cases h2 : lngS S f < 2
    · rw [if_neg (show ¬ 2 ≤ lngS S f from Int32.not_le.mpr h2), show exv S L K (S 5 + 1) tg tot (decide (x3 = 0)) f t = t from if_pos h2]
      exact ih (f + 1) d t rt (by omega) (by omega) h hl
    · obtain ⟨d1, e1, g1, w1⟩ := r_words (κ := κ) (f := f) h hk hs (by omega) (S 5 + 1) tg tot
      have h1 := rw_fr h w1 (fun j z => by omega)
      have hl1 := hl.fr w1 (fun p j z y => by unfold tgQ at z; omega)
      obtain ⟨d2, e2, w2⟩ := r_breaks (κ := κ) (t := (S 2).toNatClampNeg) (by have := (sok_2 hk).2; omega) hL.1 hL.2 hl1 g1
      have h22 := rw_fr h1 w2 (fun j z => by unfold rkW at z; omega)
      have hl2 := hl1.of w2
      have w12 : Same (exQ q) rt d2 := (w1.mono (fun _ _ z => Or.inr (Or.inl z))).tr (rk_exQ w2)
      rw [if_pos (Int32.not_lt.mp h2), rs_any (k := 5) (y := 5) h hs (by decide) rfl, bnd_t, e1, bnd_t, rs_any (k := 2) (y := 2) h1 hs (by decide) rfl, bnd_t, (sok_2 hk).1, e2, bnd2_t]
      by_cases h3 : x3 = 0
      · have hex : exv S L K (S 5 + 1) tg tot (decide (x3 = 0)) f t = t + brk (wdS S f (S 5 + 1) tg tot) L K * shtS S f := by
          unfold exv
          rw [if_neg h2, decide_eq_true h3, if_pos rfl]
        rw [if_pos h3, hex, r_shortS h22 hk hs (by omega), bnd_t]
        obtain ⟨d3, e3, w3⟩ := ih (f + 1) d (t + brk (wdS S f (S 5 + 1) tg tot) L K * shtS S f) d2 (by omega) (by omega) h22 hl2
        exact ⟨d3, e3, w12.tr w3⟩
      · have hex : exv S L K (S 5 + 1) tg tot (decide (x3 = 0)) f t = t + brk (wdS S f (S 5 + 1) tg tot) L K * 1 := by
          unfold exv
          rw [if_neg h2, decide_eq_false h3, if_neg (by decide)]
        rw [if_neg h3, hex]
        obtain ⟨d3, e3, w3⟩ := ih (f + 1) d (t + brk (wdS S f (S 5 + 1) tg tot) L K * 1) d2 (by omega) (by omega) h22 hl2
        exact ⟨d3, e3, w12.tr w3⟩
end Expects
