/-! what a code tells: the pure machine of values, both sides -/
def opv (s : Nat) (x y : Int64) : Int64 :=
  if s = 2 then x + y else if s = 3 then x - y else if s = 4 then x * y else if s = 5 then (if y = 0 then 0 else x / y)
  else if s = 6 then (if y ≤ x then 0 else 1) else if s = 7 then (if y < x then 0 else 1) else if s = 8 then (if x = y then 1 else 0)
  else if s = 9 then (if x < y then 0 else 1) else if s = 10 then (if x ≤ y then 0 else 1) else if s = 12 then x &&& y else x ||| y
theorem d_join {κ : Ko} {st : AS} {s : Nat} (h2 : 2 ≤ s) (h11 : s ≠ 11) (h14 : s < 14) (x y : Int64) : f_Cd_joined κ (nI s) x y st = some (opv s x y) := by
  have hc : s = 2 ∨ s = 3 ∨ s = 4 ∨ s = 5 ∨ s = 6 ∨ s = 7 ∨ s = 8 ∨ s = 9 ∨ s = 10 ∨ s = 12 ∨ s = 13 := by omega
  unfold f_Cd_joined opv
  rw [jn_e]
  have e : ∀ (a b : Nat), a < 14 → b < 14 → (nI a = nI b ↔ a = b) := fun a b ha hb => nI_eq (by omega) (by omega)
  rw [show (2 : Int32) = nI 2 from rfl, show (3 : Int32) = nI 3 from rfl, show (4 : Int32) = nI 4 from rfl, show (5 : Int32) = nI 5 from rfl, show (6 : Int32) = nI 6 from rfl, show (7 : Int32) = nI 7 from rfl, show (8 : Int32) = nI 8 from rfl, show (9 : Int32) = nI 9 from rfl, show (10 : Int32) = nI 10 from rfl, show (11 : Int32) = nI 11 from rfl, show (12 : Int32) = nI 12 from rfl, show (13 : Int32) = nI 13 from rfl]
  simp only [e s _ h14 (show 2 < 14 by decide), e s _ h14 (show 3 < 14 by decide), e s _ h14 (show 4 < 14 by decide), e s _ h14 (show 5 < 14 by decide), e s _ h14 (show 6 < 14 by decide), e s _ h14 (show 7 < 14 by decide), e s _ h14 (show 8 < 14 by decide), e s _ h14 (show 9 < 14 by decide), e s _ h14 (show 10 < 14 by decide), e s _ h14 (show 11 < 14 by decide), e s _ h14 (show 12 < 14 by decide), e s _ h14 (show 13 < 14 by decide)]
  rcases hc with rfl | rfl | rfl | rfl | rfl | rfl | rfl | rfl | rfl | rfl | rfl
  all_goals first | rfl | skip
  by_cases hy : y = 0
  · simp [hy]
  · simp only [if_neg hy, grd_t hy]; rfl
theorem r_join {κ : Ko} {st : AS} {s : Nat} (h2 : 2 ≤ s) (h11 : s ≠ 11) (h14 : s < 14) (x y : Int64) : f_R_one κ (nI s) x y st = some (opv s x y) := by
  have hc : s = 2 ∨ s = 3 ∨ s = 4 ∨ s = 5 ∨ s = 6 ∨ s = 7 ∨ s = 8 ∨ s = 9 ∨ s = 10 ∨ s = 12 ∨ s = 13 := by omega
  unfold f_R_one opv
  rw [jn_e]
  have e : ∀ (a b : Nat), a < 14 → b < 14 → (nI a = nI b ↔ a = b) := fun a b ha hb => nI_eq (by omega) (by omega)
  rw [show (2 : Int32) = nI 2 from rfl, show (3 : Int32) = nI 3 from rfl, show (4 : Int32) = nI 4 from rfl, show (5 : Int32) = nI 5 from rfl, show (6 : Int32) = nI 6 from rfl, show (7 : Int32) = nI 7 from rfl, show (8 : Int32) = nI 8 from rfl, show (9 : Int32) = nI 9 from rfl, show (10 : Int32) = nI 10 from rfl, show (11 : Int32) = nI 11 from rfl, show (12 : Int32) = nI 12 from rfl]
  simp only [e s _ h14 (show 2 < 14 by decide), e s _ h14 (show 3 < 14 by decide), e s _ h14 (show 4 < 14 by decide), e s _ h14 (show 5 < 14 by decide), e s _ h14 (show 6 < 14 by decide), e s _ h14 (show 7 < 14 by decide), e s _ h14 (show 8 < 14 by decide), e s _ h14 (show 9 < 14 by decide), e s _ h14 (show 10 < 14 by decide), e s _ h14 (show 11 < 14 by decide), e s _ h14 (show 12 < 14 by decide)]
  rcases hc with rfl | rfl | rfl | rfl | rfl | rfl | rfl | rfl | rfl | rfl | rfl
  all_goals first | rfl | skip
  by_cases hy : y = 0
  · simp [hy]
  · simp only [if_neg hy, grd_t hy]; rfl
/-- one step on a stack of values -/
def cstp (s v : Nat) (w : Nat → Int64) (l : List Int64) : Option (List Int64) :=
  if s = 0 then some (lN v :: l) else if s = 1 then (if v < 8 then some (w v :: l) else none)
  else if s = 11 then (match l with | x :: l => some ((1 - x) :: l) | [] => none)
  else if s < 14 then (match l with | y :: x :: l => some (opv s x y :: l) | _ => none) else none
/-- n steps from i on -/
def cev (cs cv : Nat → Nat) (w : Nat → Int64) : Nat → Nat → List Int64 → Option (List Int64)
  | 0, _, l => some l
  | n + 1, i, l => match cstp (cs i) (cv i) w l with | none => none | some l' => cev cs cv w n (i + 1) l'
/-- how many values among n steps from i on -/
def nvl (cs : Nat → Nat) : Nat → Nat → Nat
  | 0, _ => 0
  | n + 1, i => (if cs i < 2 then 1 else 0) + nvl cs n (i + 1)
/-- a stack that lies in a row -/
def stk (f : Nat → Int64) : List Int64 → Prop
  | [] => True
  | x :: l => f l.length = x ∧ stk f l
theorem stk_lo {f g : Nat → Int64} : ∀ (l : List Int64), (∀ k, k < l.length → g k = f k) → stk f l → stk g l
  | [], _, _ => trivial
  | x :: l, h, hs => ⟨(h l.length (by simp)).trans hs.1, stk_lo l (fun k hk => h k (by simp; omega)) hs.2⟩
theorem stk_push {st : AS} {a : Nat} {l : List Int64} (x : Int64) (h : stk (gl st a) l) : stk (gl (ul st a l.length x) a) (x :: l) :=
  ⟨by rw [gl_ul, if_pos ⟨rfl, rfl⟩], stk_lo l (fun k hk => by rw [gl_ul, if_neg (fun z => by omega)]) h⟩
/-- the class's code at A shows these steps -/
def CodD (st : AS) (A m : Nat) (cs cv : Nat → Nat) : Prop := ∀ k, k < m → gi st (A + 1) k = nI (cs k) ∧ gi st (A + 2) k = nI (cv k)
/-- the reference's text t shows these steps -/
def CodR (rt : AS) (q t m : Nat) (cs cv : Nat → Nat) : Prop := ∀ k, k < m → gi rt (q + 3) (400 * t + k) = nI (cs k + 16 * cv k)
theorem gatL_stk {st : AS} {a : Nat} {x : Int64} {l : List Int64} (h : stk (gl st a) (x :: l)) (hl : l.length < 64) : gatL (gl st a) 64 (nI l.length) = x := by
  rw [gatL_n rfl hl (by decide)]; exact h.1
section Eval
variable {κ : Ko} {cs cv : Nat → Nat} {w : Nat → Int64}
theorem d_evL {A a3 j : Nat} (k : Nat → Int32 → AS → Option (Int64 × AS)) (hj : j ≤ 400) (ha : a3 ≠ A + 3) (hc : ∀ i, i < j → cs i < 14 ∧ cv i < 100000) : ∀ (n i : Nat) (l l' : List Int64) (st : AS) (d : Nat), n < d → i + n = j → CodD st A j cs cv → (∀ v, v < 8 → gl st a3 v = w v) → stk (gl st (A + 3)) l → l.length + nvl cs n i ≤ 64 → cev cs cv w n i l = some l' →
    ∃ st', L_Cd_valueOf_6 κ k d A (nI j) a3 8 (nI l.length) (nI i) st = k A (nI l'.length) st' ∧ stk (gl st' (A + 3)) l' ∧ l'.length ≤ 64 ∧ Same (fun p _ => p = A + 3) st st' := by
  intro n
  induction n with
  | zero =>
    intro i l l' st d hd hi hC hw hs hn he
    obtain ⟨d, rfl⟩ : ∃ e, d = e + 1 := ⟨d - 1, by omega⟩
    obtain rfl : i = j := by omega
    obtain rfl : l = l' := Option.some.inj he
    rw [L_Cd_valueOf_6, if_pos (nI_le (Nat.le_refl _) (by omega))]
    exact ⟨st, rfl, hs, by omega, Same.rf _ _⟩
  | succ n ih =>
    intro i l l' st d hd hi hC hw hs hn he
    obtain ⟨d, rfl⟩ : ∃ e, d = e + 1 := ⟨d - 1, by omega⟩
    have hij : i < j := by omega
    have e1 : gat (gi st (A + 1)) 400 (nI i) = nI (cs i) := by rw [gat_n rfl (by omega) (by decide)]; exact (hC i hij).1
    have e2 : gat (gi st (A + 2)) 400 (nI i) = nI (cv i) := by rw [gat_n rfl (by omega) (by decide)]; exact (hC i hij).2
    have hb := hc i hij
    have c0 := (nI_ltk (m := cs i) (k := 0) (y := 0) rfl (by omega) (by decide)).2.2.2.2
    have c1 := (nI_ltk (m := cs i) (k := 1) (y := 1) rfl (by omega) (by decide)).2.2.2.2
    have c11 := (nI_ltk (m := cs i) (k := 11) (y := 11) rfl (by omega) (by decide)).2.2.2.2
    rw [L_Cd_valueOf_6, if_neg (nI_ge hij (by omega)), e1, e2]
    simp only [c0, c1, c11, nI_1]
    -- what a push at the stack's end does
    have go : ∀ (l0 : List Int64) (x : Int64), stk (gl st (A + 3)) l0 → l0.length + 1 + nvl cs n (i + 1) ≤ 64 → cev cs cv w n (i + 1) (x :: l0) = some l' → ∃ st', L_Cd_valueOf_6 κ k d A (nI j) a3 8 (nI (l0.length + 1)) (nI (i + 1)) (ul st (A + 3) l0.length x) = k A (nI l'.length) st' ∧ stk (gl st' (A + 3)) l' ∧ l'.length ≤ 64 ∧ Same (fun p _ => p = A + 3) st st' := by
      intro l0 x h0 h1 h2
      obtain ⟨st', g1, g2, g3, g4⟩ := ih (i + 1) (x :: l0) l' (ul st (A + 3) l0.length x) d (by omega) (by omega) (fun z hz => hC z hz) (fun v hv => by rw [gl_ul, if_neg (fun z => ha z.1)]; exact hw v hv) (stk_push x h0) (by simp only [List.length_cons]; omega) h2
      exact ⟨st', g1, g2, g3, (Same.ul (W := fun p _ => p = A + 3) (Same.rf _ st) rfl).tr g4⟩
    unfold cev at he
    unfold cstp at he
    unfold nvl at hn
    by_cases s0 : cs i = 0
    · rw [if_pos s0] at he ⊢
      rw [if_pos (by omega)] at hn
      rw [gputL_n rfl (by omega) (by decide), nI_l (by omega)]
      exact go l _ hs (by omega) he
    · rw [if_neg s0] at he ⊢
      by_cases s1 : cs i = 1
      · rw [if_pos s1] at he ⊢
        rw [if_pos (by omega)] at hn
        by_cases h8 : cv i < 8
        · rw [if_pos h8] at he
          rw [gputL_n rfl (by omega) (by decide), gatL_n rfl h8 (by decide), hw _ h8]
          exact go l _ hs (by omega) he
        · rw [if_neg h8] at he
          cases he
      · rw [if_neg s1] at he ⊢
        rw [if_neg (by omega)] at hn
        by_cases s11 : cs i = 11
        · rw [if_pos s11] at he ⊢
          match l, hs, hn, he with
          | [], _, _, he => cases he
          | x :: l0, hs, hn, he =>
            simp only [List.length_cons] at hn ⊢
            rw [nI_pred, gatL_stk hs (by omega), gputL_n rfl (by omega) (by decide)]
            exact go l0 _ hs.2 (by omega) he
        · rw [if_neg s11, if_pos hb.1] at he
          rw [if_neg s11]
          match l, hs, hn, he with
          | [], _, _, he => cases he
          | [x], _, _, he => cases he
          | y :: x :: l0, hs, hn, he =>
            simp only [List.length_cons] at hn ⊢
            have t1 : nI (l0.length + 1 + 1) - 1 = nI (x :: l0).length := nI_pred _
            have t2 : nI (l0.length + 1 + 1) - 2 = nI l0.length := by rw [show (2 : Int32) = nI 2 from rfl, nI_sub (by omega)]; rfl
            rw [t1, t2, pk_m1, gatL_stk hs (by simp only [List.length_cons]; omega), gatL_stk hs.2 (by omega), d_join (by omega) s11 hb.1, bnd_t, gputL_n rfl (by omega) (by decide)]
            exact go l0 _ hs.2.2 (by omega) he
theorem d_value {A a3 i j : Nat} {st : AS} {r : Int64} (hij : i ≤ j) (hj : j ≤ 400) (ha : a3 ≠ A + 3) (hc : ∀ i, i < j → cs i < 14 ∧ cv i < 100000) (hC : CodD st A j cs cv) (hw : ∀ v, v < 8 → gl st a3 v = w v) (hn : nvl cs (j - i) i ≤ 64) (he : cev cs cv w (j - i) i [] = some [r]) : ∃ st', f_Cd_valueOf κ A (nI i) (nI j) a3 8 st = some (r, st') ∧ Same (fun p _ => p = A + 3) st st' := by
  unfold f_Cd_valueOf
  obtain ⟨st', g1, g2, g3, g4⟩ := d_evL (κ := κ) (fun (v7 : Nat) (v9 : Int32) (s10 : AS) => some ((gatL (gl s10 (v7 + 3)) 64 (v9 - 1)), s10)) hj ha hc (j - i) i [] [r] st FU (FUn (by omega)) (by omega) hC hw trivial (by simpa using hn) he
  refine ⟨st', ?_, g4⟩
  have g1' := g1
  rw [show nI ([] : List Int64).length = 0 from rfl] at g1'
  rw [g1']
  show some (gatL (gl st' (A + 3)) 64 (nI 1 - 1), st') = _
  rw [show nI 1 - 1 = nI ([] : List Int64).length from rfl, gatL_stk g2 (by decide)]
/-- where the reference reckons -/
def rkW (q p k : Nat) : Prop := p = q + 12 ∨ p = q ∧ k = 21
theorem rk_push {rt : AS} {q : Nat} {l : List Int64} (x : Int64) (h21 : gi rt q 21 = nI l.length) (hl : l.length < 64) : f_R_push κ q x rt = some (ui (ul rt (q + 12) l.length x) q 21 (nI (l.length + 1))) := by
  unfold f_R_push
  rw [h21, grd_t (vp_in_nI hl (by decide)), nI_clamp (by omega), gi_ul', h21, nI_1]
theorem rk_pop {rt : AS} {q n : Nat} (h21 : gi rt q 21 = nI (n + 1)) (hl : n < 64) : f_R_pop κ q rt = some (gl rt (q + 12) n, ui rt q 21 (nI n)) := by
  unfold f_R_pop
  rw [h21, nI_pred, gi_ui, if_pos ⟨rfl, rfl⟩, grd_t (vp_in_nI hl (by decide)), nI_clamp (by omega), gl_ui']
theorem rk_ui {q : Nat} {r1 r2 : AS} {v : Int32} (h : Same (rkW q) r1 r2) : Same (rkW q) r1 (ui r2 q 21 v) := h.ui (Or.inr ⟨rfl, rfl⟩)
theorem rk_ul {q : Nat} {r1 r2 : AS} {j : Nat} {v : Int64} (h : Same (rkW q) r1 r2) : Same (rkW q) r1 (ul r2 (q + 12) j v) := h.ul (Or.inl rfl)
theorem r_evL {q t j : Nat} (k : Nat → AS → Option (Int64 × AS)) (ht : t < 18) (hj : j ≤ 400) (hc : ∀ i, i < j → cs i < 14 ∧ cv i < 100000) : ∀ (n i : Nat) (l l' : List Int64) (st : AS) (d : Nat), n < d → i + n = j → CodR st q t j cs cv → (∀ v, v < 8 → gl st (q + 13) v = w v) → gi st q 21 = nI l.length → stk (gl st (q + 12)) l → l.length + nvl cs n i ≤ 64 → cev cs cv w n i l = some l' →
    ∃ st', L_R_reckons_8 κ k d q (nI t) (nI j) (nI i) st = k q st' ∧ gi st' q 21 = nI l'.length ∧ stk (gl st' (q + 12)) l' ∧ l'.length ≤ 64 ∧ Same (rkW q) st st' := by
  intro n
  induction n with
  | zero =>
    intro i l l' st d hd hi hC hw h21 hs hn he
    obtain ⟨d, rfl⟩ : ∃ e, d = e + 1 := ⟨d - 1, by omega⟩
    obtain rfl : i = j := by omega
    obtain rfl : l = l' := Option.some.inj he
    rw [L_R_reckons_8, if_pos (nI_le (Nat.le_refl _) (by omega))]
    exact ⟨st, rfl, h21, hs, by omega, Same.rf _ _⟩
  | succ n ih =>
    intro i l l' st d hd hi hC hw h21 hs hn he
    obtain ⟨d, rfl⟩ : ∃ e, d = e + 1 := ⟨d - 1, by omega⟩
    have hij : i < j := by omega
    have hb := hc i hij
    have c0 := (nI_ltk (m := cs i) (k := 0) (y := 0) rfl (by omega) (by decide)).2.2.2.2
    have c1 := (nI_ltk (m := cs i) (k := 1) (y := 1) rfl (by omega) (by decide)).2.2.2.2
    have c11 := (nI_ltk (m := cs i) (k := 11) (y := 11) rfl (by omega) (by decide)).2.2.2.2
    have ix : (400 : Int32) * nI t + nI i = nI (400 * t + i) := by rw [show (400 : Int32) = nI 400 from rfl, nI_mul, nI_add]
    have a15 : nI (cs i + 16 * cv i) &&& 15 = nI (cs i) := by
      rw [pk_andN (by omega) 4 (by decide)]
      congr 1
      omega
    have a4 : nI (cs i + 16 * cv i) >>> ((4 : Int32) &&& 31) = nI (cv i) := by
      rw [pk_shrN (by omega) _ 4 (by decide)]
      congr 1
      omega
    rw [L_R_reckons_8, if_neg (nI_ge hij (by omega)), ix, grd_t (vp_in_nI (by omega) (by decide)), grd_t (vp_in_nI (by omega) (by decide)), nI_clamp (by omega), hC i hij, a15, a4]
    simp only [c0, c1, c11, nI_1]
    have go : ∀ (l0 : List Int64) (x : Int64) (r : AS), Same (rkW q) st r → gi r q 21 = nI l0.length → stk (gl r (q + 12)) l0 → l0.length + 1 + nvl cs n (i + 1) ≤ 64 → cev cs cv w n (i + 1) (x :: l0) = some l' → ∃ st', bnd (f_R_push κ q x r) (fun s14 => L_R_reckons_8 κ k d q (nI t) (nI j) (nI (i + 1)) s14) = k q st' ∧ gi st' q 21 = nI l'.length ∧ stk (gl st' (q + 12)) l' ∧ l'.length ≤ 64 ∧ Same (rkW q) st st' := by
      intro l0 x r hS g21 h0 h1 h2
      rw [rk_push x g21 (by omega), bnd_t]
      have hS' : Same (rkW q) st (ui (ul r (q + 12) l0.length x) q 21 (nI (l0.length + 1))) := rk_ui (rk_ul hS)
      obtain ⟨st', k1, k2, k3, k4, k5⟩ := ih (i + 1) (x :: l0) l' (ui (ul r (q + 12) l0.length x) q 21 (nI (l0.length + 1))) d (by omega) (by omega)
        (fun z hz => by rw [(hS' (q + 3) (400 * t + z) (fun y => by unfold rkW at y; omega)).1]; exact hC z hz)
        (fun v hv => by rw [(hS' (q + 13) v (fun y => by unfold rkW at y; omega)).2.1]; exact hw v hv)
        (by rw [gi_ui, if_pos ⟨rfl, rfl⟩]; rfl) (by exact stk_push (st := r) (a := q + 12) x h0) (by simp only [List.length_cons]; omega) h2
      exact ⟨st', k1, k2, k3, k4, hS'.tr k5⟩
    unfold cev at he
    unfold cstp at he
    unfold nvl at hn
    by_cases s0 : cs i = 0
    · rw [if_pos s0] at he ⊢
      rw [if_pos (by omega)] at hn
      rw [nI_l (by omega)]
      exact go l _ st (Same.rf _ _) h21 hs (by omega) he
    · rw [if_neg s0] at he ⊢
      by_cases s1 : cs i = 1
      · rw [if_pos s1] at he ⊢
        rw [if_pos (by omega)] at hn
        by_cases h8 : cv i < 8
        · rw [if_pos h8] at he
          rw [grd_t (vp_in_nI h8 (by decide)), nI_clamp (by omega), hw _ h8]
          exact go l _ st (Same.rf _ _) h21 hs (by omega) he
        · rw [if_neg h8] at he
          cases he
      · rw [if_neg s1] at he ⊢
        rw [if_neg (by omega)] at hn
        by_cases s11 : cs i = 11
        · rw [if_pos s11] at he ⊢
          match l, hs, hn, he, h21 with
          | [], _, _, he, _ => cases he
          | x :: l0, hs, hn, he, h21 =>
            simp only [List.length_cons] at hn h21 ⊢
            rw [rk_pop h21 (by omega), bnd2_t, hs.1]
            exact go l0 _ (ui st q 21 (nI l0.length)) (rk_ui (Same.rf _ _)) (by rw [gi_ui, if_pos ⟨rfl, rfl⟩]) hs.2 (by omega) he
        · rw [if_neg s11, if_pos hb.1] at he
          rw [if_neg s11]
          match l, hs, hn, he, h21 with
          | [], _, _, he, _ => cases he
          | [x], _, _, he, _ => cases he
          | y :: x :: l0, hs, hn, he, h21 =>
            simp only [List.length_cons] at hn h21 ⊢
            rw [rk_pop h21 (by omega), bnd2_t, rk_pop (n := l0.length) (by rw [gi_ui, if_pos ⟨rfl, rfl⟩]) (by omega), bnd2_t, gl_ui', hs.2.1, show gl st (q + 12) (l0.length + 1) = y from hs.1, r_join (by omega) s11 hb.1, bnd_t]
            exact go l0 _ (ui (ui st q 21 (nI (l0.length + 1))) q 21 (nI l0.length)) (rk_ui (rk_ui (Same.rf _ _))) (by rw [gi_ui, if_pos ⟨rfl, rfl⟩]) hs.2.2 (by omega) he
theorem r_value {q t i j : Nat} {st : AS} {r : Int64} (ht : t < 18) (hij : i ≤ j) (hj : j ≤ 400) (hc : ∀ i, i < j → cs i < 14 ∧ cv i < 100000) (hC : CodR st q t j cs cv) (hw : ∀ v, v < 8 → gl st (q + 13) v = w v) (hn : nvl cs (j - i) i ≤ 64) (he : cev cs cv w (j - i) i [] = some [r]) : ∃ st', f_R_reckons κ q (nI t) (nI i) (nI j) st = some (r, st') ∧ Same (rkW q) st st' := by
  unfold f_R_reckons
  obtain ⟨st', g1, g2, g3, g4, g5⟩ := r_evL (κ := κ) (fun (v27 : Nat) (s29 : AS) => bnd2 (f_R_pop κ v27 s29) (fun v30 s31 => some (v30, s31))) ht hj hc (j - i) i [] [r] (ui st q 21 0) FU (FUn (by omega)) (by omega) (fun z hz => by rw [gi_ui, if_neg (fun y => by omega)]; exact hC z hz) hw (by rw [gi_ui, if_pos ⟨rfl, rfl⟩]; rfl) trivial (by simpa using hn) he
  rw [g1, rk_pop (n := 0) g2 (by decide), bnd2_t]
  refine ⟨_, by rw [show gl st' (q + 12) 0 = r from g3.1], rk_ui ((rk_ui (Same.rf _ st)).tr g5)⟩
end Eval
