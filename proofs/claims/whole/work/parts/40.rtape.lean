/-! the reference's tape: blanks, words, numbers -/
def sb (t : Nat) : Int32 := if t < 128 then nI t else nI t - 256
theorem sb_32 : ∀ t, t < 256 → (sb t = 32 ↔ t = 32) := by decide +kernel
theorem sb_255 : ∀ t, t < 256 → sb t &&& 255 = nI t := by decide +kernel
theorem sb_d : ∀ t, t < 256 → (if sb t < 48 then (0 : Int32) else if 57 < sb t then 0 else 1) = if 48 ≤ t ∧ t ≤ 57 then 1 else 0 := by decide +kernel
theorem sb_l : ∀ t, t < 256 → (if sb t < 97 then (0 : Int32) else if 122 < sb t then 0 else 1) = if 97 ≤ t ∧ t ≤ 122 then 1 else 0 := by decide +kernel
theorem sb_s {t : Nat} (h : t < 128) : sb t = nI t := if_pos h
theorem sb_eq : ∀ t, t < 256 → ∀ b, b < 128 → (sb t = nI b ↔ t = b) := by decide +kernel
def TQ (rt : AS) (q n : Nat) (T : Nat → Nat) : Prop := gi rt q 1 = nI n ∧ n ≤ 400 ∧ (∀ k, k < n → gi rt (q + 1) k = sb (T k) ∧ T k < 256)
def RQ (rt : AS) (q n : Nat) (T : Nat → Nat) (p : Nat) (w m : Int32) : Prop := TQ rt q n T ∧ gi rt q 11 = nI p ∧ p ≤ n ∧ gi rt q 12 = w ∧ gi rt q 15 = m
def rqW (q p j : Nat) : Prop := p = q ∧ 11 ≤ j ∧ j ≤ 13
theorem TQ.ui {rt : AS} {q n j : Nat} {T : Nat → Nat} {v : Int32} (h : TQ rt q n T) (hj : 2 ≤ j) : TQ (ui rt q j v) q n T :=
  ⟨by rw [gi_ui, if_neg (fun z => by omega)]; exact h.1, h.2.1, fun k hk => by rw [gi_ui, if_neg (fun z => by omega)]; exact h.2.2 k hk⟩
section Rq
variable {κ : Ko} {rt : AS} {q n p : Nat} {T : Nat → Nat} {w m : Int32}
theorem RQ.at (h : RQ rt q n T p w m) {p' : Nat} (hp : p' ≤ n) : RQ (ui rt q 11 (nI p')) q n T p' w m :=
  ⟨h.1.ui (by decide), by rw [gi_ui, if_pos ⟨rfl, rfl⟩], hp, by rw [gi_ui, if_neg (fun z => by omega)]; exact h.2.2.2.1, by rw [gi_ui, if_neg (fun z => by omega)]; exact h.2.2.2.2⟩
theorem RQ.wr (h : RQ rt q n T p w m) (w' : Int32) : RQ (ui rt q 12 w') q n T p w' m :=
  ⟨h.1.ui (by decide), by rw [gi_ui, if_neg (fun z => by omega)]; exact h.2.1, h.2.2.1, by rw [gi_ui, if_pos ⟨rfl, rfl⟩], by rw [gi_ui, if_neg (fun z => by omega)]; exact h.2.2.2.2⟩
theorem RQ.nu (h : RQ rt q n T p w m) (v : Int32) : RQ (ui rt q 13 v) q n T p w m :=
  ⟨h.1.ui (by decide), by rw [gi_ui, if_neg (fun z => by omega)]; exact h.2.1, h.2.2.1, by rw [gi_ui, if_neg (fun z => by omega)]; exact h.2.2.2.1, by rw [gi_ui, if_neg (fun z => by omega)]; exact h.2.2.2.2⟩
theorem rq_11 {s1 s2 : AS} {v : Int32} (h : Same (rqW q) s1 s2) : Same (rqW q) s1 (ui s2 q 11 v) := h.ui ⟨rfl, by decide, by decide⟩
theorem rq_12 {s1 s2 : AS} {v : Int32} (h : Same (rqW q) s1 s2) : Same (rqW q) s1 (ui s2 q 12 v) := h.ui ⟨rfl, by decide, by decide⟩
theorem rq_13 {s1 s2 : AS} {v : Int32} (h : Same (rqW q) s1 s2) : Same (rqW q) s1 (ui s2 q 13 v) := h.ui ⟨rfl, by decide, by decide⟩
theorem r_isDigit (h : TQ rt q n T) {k : Nat} (hk : k ≤ 800) : f_R_isDigit κ q (nI k) rt = some (if k < n ∧ tpD T k = true then 1 else 0) := by
  unfold f_R_isDigit
  have hn := h.2.1
  simp only [jn_e]
  rw [h.1]
  by_cases hk : k < n
  · have hb := h.2.2 k hk
    rw [if_neg (nI_ge hk (by omega)), grd_t (vp_in_nI (by omega) (by decide)), grd_t (vp_in_nI (by omega) (by decide)), nI_clamp (by omega), hb.1]
    have := sb_d (T k) hb.2
    have e : (if k < n ∧ tpD T k = true then (1 : Int32) else 0) = if 48 ≤ T k ∧ T k ≤ 57 then 1 else 0 := by
      unfold tpD
      simp only [decide_eq_true_eq, hk, true_and]
    rw [e, ← this]
    split
    · rfl
    · split <;> rfl
  · rw [if_pos (nI_le (by omega) (by omega)), if_neg (fun z => hk z.1)]
theorem r_isLetter (h : TQ rt q n T) {k : Nat} (hk : k ≤ 800) : f_R_isLetter κ q (nI k) rt = some (if k < n ∧ tpL T k = true then 1 else 0) := by
  unfold f_R_isLetter
  have hn := h.2.1
  simp only [jn_e]
  rw [h.1]
  by_cases hk : k < n
  · have hb := h.2.2 k hk
    rw [if_neg (nI_ge hk (by omega)), grd_t (vp_in_nI (by omega) (by decide)), grd_t (vp_in_nI (by omega) (by decide)), nI_clamp (by omega), hb.1]
    have := sb_l (T k) hb.2
    have e : (if k < n ∧ tpL T k = true then (1 : Int32) else 0) = if 97 ≤ T k ∧ T k ≤ 122 then 1 else 0 := by
      unfold tpL
      simp only [decide_eq_true_eq, hk, true_and]
    rw [e, ← this]
    split
    · rfl
    · split <;> rfl
  · rw [if_pos (nI_le (by omega) (by omega)), if_neg (fun z => hk z.1)]
/-- the sign that stands next, -1 at the end -/
def nxt (T : Nat → Nat) (n p : Nat) : Int32 := if skp T n p < n then nI (T (skp T n p)) else -1
theorem r_see (h : RQ rt q n T p w m) : ∃ rt', f_R_see κ q rt = some (nxt T n p, rt') ∧ RQ rt' q n T (skp T n p) w m ∧ Same (rqW q) rt rt' := by
  unfold f_R_see
  have hn := h.1.2.1
  have main : ∀ (r p d : Nat) (rt : AS), r < d → p + r = n → RQ rt q n T p w m → ∃ rt', L_R_see_0 κ (fun (v4 : Nat) (s6 : AS) => if (gi s6 v4 1) ≤ (gi s6 v4 11) then some (((-1) : Int32), s6) else grd (vp_in (gi s6 v4 11) 400) (some ((gi s6 (v4 + 1) (gi s6 v4 11 : Int32).toNatClampNeg) &&& 255, s6))) d q rt = some (nxt T n p, rt') ∧ RQ rt' q n T (skp T n p) w m ∧ Same (rqW q) rt rt' := by
    intro r
    induction r with
    | zero =>
      intro p d rt hd hr h
      obtain ⟨d, rfl⟩ : ∃ e, d = e + 1 := ⟨d - 1, by omega⟩
      have e : skp T n p = p := tpE_n (by omega)
      unfold nxt
      rw [L_R_see_0, h.1.1, h.2.1, if_pos (nI_le (by omega) (by omega)), if_pos (show nI n ≤ nI p from nI_le (by omega) (by omega)), e, if_neg (show ¬ p < n by omega)]
      exact ⟨rt, rfl, h, Same.rf _ _⟩
    | succ r ih =>
      intro p d rt hd hr h
      obtain ⟨d, rfl⟩ : ∃ e, d = e + 1 := ⟨d - 1, by omega⟩
      have hb := h.1.2.2 p (by omega)
      rw [L_R_see_0, h.1.1, h.2.1, if_neg (nI_ge (by omega) (by omega)), grd_t (vp_in_nI (by omega) (by decide)), nI_clamp (by omega), hb.1, nI_1]
      simp only [sb_32 _ hb.2]
      by_cases hc : T p = 32
      · rw [if_pos hc]
        have e : skp T n p = skp T n (p + 1) := tpE_t (by omega) (decide_eq_true hc)
        obtain ⟨rt', g1, g2, g3⟩ := ih (p + 1) d (ui rt q 11 (nI (p + 1))) (by omega) (by omega) (h.at (by omega))
        unfold nxt at g1 ⊢
        rw [e]
        exact ⟨rt', g1, g2, (rq_11 (Same.rf _ _)).tr g3⟩
      · have e : skp T n p = p := tpE_f (decide_eq_false hc)
        unfold nxt
        rw [if_neg hc, if_neg (show ¬ nI n ≤ nI p from nI_ge (by omega) (by omega)), grd_t (vp_in_nI (by omega) (by decide)), sb_255 _ hb.2, e, if_pos (show p < n by omega)]
        exact ⟨rt, rfl, h, Same.rf _ _⟩
  exact main (n - p) p FU rt (FUn (by omega)) (by have := h.2.2.1; omega) h
theorem r_fails (h : RQ rt q n T p 0 m) {x y : Int32} {b k : Nat} (hx : x = nI k) (hy : y = nI b) : ∃ rt', f_R_fails κ q x y rt = (0, rt') ∧ RQ rt' q n T p (nI (1 + 8 * b + k)) m ∧ Same (rqW q) rt rt' := by
  unfold f_R_fails
  rw [h.2.2.2.1, if_pos rfl, hx, hy, show (1 : Int32) + 8 * nI b + nI k = nI (1 + 8 * b + k) by rw [show (1 : Int32) = nI 1 from rfl, show (8 : Int32) = nI 8 from rfl, nI_mul, nI_add, nI_add]]
  exact ⟨_, rfl, h.wr _, rq_12 (Same.rf _ _)⟩
theorem r_pass (h : RQ rt q n T p w m) : ∃ rt', f_R_passWord κ q rt = some rt' ∧ RQ rt' q n T (wen T n p) w m ∧ Same (rqW q) rt rt' := by
  unfold f_R_passWord
  have hn := h.1.2.1
  have main : ∀ (r p d : Nat) (rt : AS), r < d → p + r = n → RQ rt q n T p w m → ∃ rt', L_R_passWord_0 κ d q rt = some rt' ∧ RQ rt' q n T (wen T n p) w m ∧ Same (rqW q) rt rt' := by
    intro r
    induction r with
    | zero =>
      intro p d rt hd hr h
      obtain ⟨d, rfl⟩ : ∃ e, d = e + 1 := ⟨d - 1, by omega⟩
      rw [L_R_passWord_0, h.2.1, r_isLetter h.1 (by omega), bnd_t, if_neg (show ¬ (p < n ∧ tpL T p = true) from fun z => by omega), if_pos rfl, show wen T n p = p from tpE_n (by omega)]
      exact ⟨rt, rfl, h, Same.rf _ _⟩
    | succ r ih =>
      intro p d rt hd hr h
      obtain ⟨d, rfl⟩ : ∃ e, d = e + 1 := ⟨d - 1, by omega⟩
      rw [L_R_passWord_0, h.2.1, r_isLetter h.1 (by omega), bnd_t]
      by_cases hc : tpL T p = true
      · rw [if_pos (show p < n ∧ tpL T p = true from ⟨by omega, hc⟩), if_neg (show ¬ (1 : Int32) = 0 by decide), nI_1, show wen T n p = wen T n (p + 1) from tpE_t (by omega) hc]
        obtain ⟨rt', g1, g2, g3⟩ := ih (p + 1) d (ui rt q 11 (nI (p + 1))) (by omega) (by omega) (h.at (by omega))
        exact ⟨rt', g1, g2, (rq_11 (Same.rf _ _)).tr g3⟩
      · rw [if_neg (show ¬ (p < n ∧ tpL T p = true) from fun z => hc z.2), if_pos rfl, show wen T n p = p from tpE_f (Bool.eq_false_iff.mpr hc)]
        exact ⟨rt, rfl, h, Same.rf _ _⟩
  exact main (n - p) p FU rt (FUn (by omega)) (by have := h.2.2.1; omega) h
/-- a number: 1 and its value, or 0 and its fault -/
theorem r_number (h : RQ rt q n T p 0 m) {x y : Int32} {lo hi : Nat} (hx : x = nI lo) (hy : y = nI hi) (hlo : lo < 2 ^ 31) (hhi : hi < 2 ^ 31) : ∃ p' v rt', f_R_numberHere κ q x y rt = some ((if nfl T n p lo hi = 0 then 1 else 0), rt') ∧ RQ rt' q n T p' (nI (nfl T n p lo hi)) m ∧ (nfl T n p lo hi = 0 → p' = den T n (skp T n p) ∧ gi rt' q 13 = nI v ∧ v = nvl5 T (skp T n p) (den T n (skp T n p))) ∧ Same (rqW q) rt rt' := by
  have hn := h.1.2.1
  unfold f_R_numberHere
  obtain ⟨s1, e1, h1, w1⟩ := r_see (κ := κ) h
  rw [e1, bnd2_t]
  unfold nfl
  generalize hB : skp T n p = b at *
  have hbn := h1.2.2.1
  rw [h1.2.1, r_isDigit h1.1 (by omega), bnd_t]
  by_cases hd : b < n ∧ tpD T b = true
  · rw [if_pos hd, if_neg (show ¬ (1 : Int32) = 0 by decide)]
    have loop : ∀ (k : Nat → Int32 → Int32 → Int32 → Int32 → AS → Option (Int32 × AS)) (r c d : Nat) (st : AS), r < d → c + r = n → b ≤ c → RQ st q n T c 0 m → (∀ j, b ≤ j → j < c → tpD T j = true) → ∃ st', L_R_numberHere_34 κ k d q x y (nI b) (nI (nvd T b (min (c - b) 5))) st = k q x y (nI b) (nI (nvl5 T b (den T n c))) st' ∧ RQ st' q n T (den T n c) 0 m ∧ Same (rqW q) st st' := by
      intro k r
      induction r with
      | zero =>
        intro c d st hd hr hbc h hall
        obtain ⟨d, rfl⟩ : ∃ e, d = e + 1 := ⟨d - 1, by omega⟩
        rw [L_R_numberHere_34, h.2.1, r_isDigit h.1 (by omega), bnd_t, if_neg (show ¬ (c < n ∧ tpD T c = true) from fun z => by omega), if_pos rfl, show den T n c = c from tpE_n (by omega)]
        exact ⟨st, rfl, h, Same.rf _ _⟩
      | succ r ih =>
        intro c d st hd hr hbc h hall
        obtain ⟨d, rfl⟩ : ∃ e, d = e + 1 := ⟨d - 1, by omega⟩
        rw [L_R_numberHere_34, h.2.1, r_isDigit h.1 (by omega), bnd_t]
        by_cases hc : tpD T c = true
        · have hc' := of_decide_eq_true hc
          have hb' := h.1.2.2 c (by omega)
          have hall' : ∀ j, b ≤ j → j < c + 1 → tpD T j = true := fun j j1 j2 => by
            by_cases e : j = c
            · rw [e]; exact hc
            · exact hall j j1 (by omega)
          rw [if_pos (show c < n ∧ tpD T c = true from ⟨by omega, hc⟩), if_neg (show ¬ (1 : Int32) = 0 by decide), nI_1, show den T n c = den T n (c + 1) from tpE_t (by omega) hc, nI_sub hbc, show (5 : Int32) = nI 5 from rfl]
          simp only [jn_e, nI_leI (show 5 < 2 ^ 31 by decide) (show c - b < 2 ^ 31 by omega)]
          obtain ⟨st', g1, g2, g3⟩ := ih (c + 1) d (ui st q 11 (nI (c + 1))) (by omega) (by omega) (by omega) (h.at (by omega)) hall'
          by_cases h5 : 5 ≤ c - b
          · rw [if_pos h5]
            rw [show min (c + 1 - b) 5 = min (c - b) 5 by omega] at g1
            exact ⟨st', g1, g2, (rq_11 (Same.rf _ _)).tr g3⟩
          · rw [if_neg h5, grd_t (vp_in_nI (by omega) (by decide)), nI_clamp (by omega), hb'.1, sb_s (by omega)]
            rw [show min (c + 1 - b) 5 = (c - b) + 1 by omega, nvd, show b + (c - b) = c by omega] at g1
            rw [show min (c - b) 5 = c - b by omega, show (10 : Int32) = nI 10 from rfl, nI_mul, nI_add, show (48 : Int32) = nI 48 from rfl, nI_sub (by omega), show 10 * nvd T b (c - b) + T c - 48 = nvd T b (c - b) * 10 + (T c - 48) by omega]
            exact ⟨st', g1, g2, (rq_11 (Same.rf _ _)).tr g3⟩
        · rw [if_neg (show ¬ (c < n ∧ tpD T c = true) from fun z => hc z.2), if_pos rfl, show den T n c = c from tpE_f (Bool.eq_false_iff.mpr hc)]
          exact ⟨st, rfl, h, Same.rf _ _⟩
    obtain ⟨s2, e2, h2, w2⟩ := loop (fun (v11 : Nat) (v13 : Int32) (v14 : Int32) (v15 : Int32) (v16 : Int32) (s17 : AS) => jn (fun (s21 : AS) => some ((1 : Int32), s21)) fun j20 => jn (fun (s19 : AS) => if ((f_R_fails κ v11 (1 : Int32) v15 s19).1) = 0 then some ((0 : Int32), ((f_R_fails κ v11 (1 : Int32) v15 s19).2)) else j20 ((f_R_fails κ v11 (1 : Int32) v15 s19).2)) fun j18 => if 5 < ((gi (ui s17 v11 13 v16) v11 11) - v15) then j18 (ui s17 v11 13 v16) else if (wi ((v16 : Int32).toInt64) ((v13 : Int32).toInt64) ((v14 : Int32).toInt64)) = 0 then j18 (ui s17 v11 13 v16) else j20 (ui s17 v11 13 v16)) (n - b) b FU s1 (FUn (by omega)) (by omega) (Nat.le_refl _) h1 (fun j j1 j2 => by omega)
    rw [show nI (nvd T b (min (b - b) 5)) = 0 by rw [Nat.sub_self]; rfl] at e2
    rw [e2]
    have hlo' := den_lo (T := T) hbn
    have hv := nvl5_lt (T := T) (n := n) (b := b)
    have hgt : b < den T n b := by
      have := den_t (T := T) hd.1 hd.2
      have h3 := den_lo (T := T) (show b + 1 ≤ n by omega)
      omega
    have hN := h2.nu (nI (nvl5 T b (den T n b)))
    have w3 : Same (rqW q) rt (ui s2 q 13 (nI (nvl5 T b (den T n b)))) := rq_13 (w1.tr w2)
    simp only [jn_e]
    rw [hN.2.1, nI_sub hlo'.1, if_neg (show ¬ den T n b = b by omega)]
    simp only [show (5 : Int32) = nI 5 from rfl, nI_ltI (show 5 < 2 ^ 31 by decide) (show den T n b - b < 2 ^ 31 by omega), wi_t, hx, hy, nI_leI hlo (show nvl5 T b (den T n b) < 2 ^ 31 by omega), nI_leI (show nvl5 T b (den T n b) < 2 ^ 31 by omega) hhi]
    obtain ⟨s4, e4, h4, w4⟩ := r_fails (κ := κ) hN (x := 1) (y := nI b) (b := b) (k := 1) rfl rfl
    rw [e4]
    simp only [if_true]
    by_cases k1 : 5 < den T n b - b
    · rw [if_pos k1, if_pos (Or.inl k1), if_neg (by omega)]
      exact ⟨_, 0, s4, rfl, h4, fun z => by omega, w3.tr w4⟩
    · rw [if_neg k1]
      by_cases k2 : lo ≤ nvl5 T b (den T n b) ∧ nvl5 T b (den T n b) ≤ hi
      · rw [if_neg (fun z => z k2), if_neg (show ¬ (5 < den T n b - b ∨ ¬(lo ≤ nvl5 T b (den T n b) ∧ nvl5 T b (den T n b) ≤ hi)) from fun z => z.elim k1 (fun y => y k2)), if_pos rfl]
        exact ⟨_, _, _, rfl, hN, fun _ => ⟨rfl, by rw [gi_ui, if_pos ⟨rfl, rfl⟩], rfl⟩, w3⟩
      · rw [if_pos k2, if_pos (Or.inr k2), if_neg (by omega)]
        exact ⟨_, 0, s4, rfl, h4, fun z => by omega, w3.tr w4⟩
  · rw [if_neg hd, if_pos rfl]
    have e : den T n b = b := by
      by_cases hb : b < n
      · exact tpE_f (Bool.eq_false_iff.mpr (fun z => hd ⟨hb, z⟩))
      · exact tpE_n (by omega)
    rw [if_pos e]
    obtain ⟨s4, e4, h4, w4⟩ := r_fails (κ := κ) h1 (x := 0) (y := nI b) (b := b) (k := 0) rfl rfl
    rw [e4, grd_t (Or.inl rfl), if_neg (by omega)]
    exact ⟨_, 0, s4, rfl, h4, fun z => by omega, w1.tr w4⟩
end Rq
