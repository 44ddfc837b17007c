/-! the reference's stack of signs -/
def OST (rs : AS) (q : Nat) (O : List Nat) (dp : Nat) : Prop := gi rs q 16 = nI dp ∧ gi rs q 19 = nI O.length ∧ ∀ k, k < O.length → gi rs (q + 11) k = nI (O.getD k 0)
def stW (q p j : Nat) : Prop := p = q ∧ 16 ≤ j ∧ j ≤ 19 ∧ j ≠ 17 ∨ p = q + 11
/-- all that a test's reading touches -/
def pbW (q t p j : Nat) : Prop := p = q ∧ 11 ≤ j ∧ j ≤ 19 ∧ j ≠ 17 ∨ cqW q t p j ∨ p = q + 11
theorem rq_pb {q t : Nat} {s1 s2 : AS} (h : Same (rqW q) s1 s2) : Same (pbW q t) s1 s2 := h.mono (fun _ _ z => Or.inl ⟨z.1, z.2.1, by have := z.2.2; omega, by have := z.2.2; omega⟩)
theorem cq_pb {q t : Nat} {s1 s2 : AS} (h : Same (cqW q t) s1 s2) : Same (pbW q t) s1 s2 := h.mono (fun _ _ z => Or.inr (Or.inl z))
theorem pq_pb {q t : Nat} {s1 s2 : AS} (h : Same (pqW q t) s1 s2) : Same (pbW q t) s1 s2 := h.mono (fun _ _ z => z.elim (fun y => Or.inl ⟨y.1, y.2.1, Nat.le_trans y.2.2 (by decide), by have := y.2.2; omega⟩) (fun y => Or.inr (Or.inl y)))
def BADB (κ : Ko) (a ta A iw q t n : Nat) (T : Nat → Nat) (o : Option AS) (r : Option (Int32 × AS)) (ds rs : AS) : Prop :=
  ∃ ds' rs' F, o = some ds' ∧ FS κ ds' a ta A iw n T F ∧ r = some (0, rs') ∧ gi rs' q 12 = nI F ∧ Same (pdW a A) ds ds' ∧ Same (pbW q t) rs rs'
theorem OST.of {rs rs' : AS} {q dp : Nat} {O : List Nat} {W : Nat → Nat → Prop} (h : OST rs q O dp) (hw : Same W rs rs') (h16 : ¬ W q 16) (h19 : ¬ W q 19) (h11 : ∀ j, ¬ W (q + 11) j) : OST rs' q O dp :=
  ⟨by rw [(hw q 16 h16).1]; exact h.1, by rw [(hw q 19 h19).1]; exact h.2.1, fun k hk => by rw [(hw _ k (h11 k)).1]; exact h.2.2 k hk⟩
theorem OST.rq {rs rs' : AS} {q dp : Nat} {O : List Nat} (h : OST rs q O dp) (hw : Same (rqW q) rs rs') : OST rs' q O dp := h.of hw (fun z => by unfold rqW at z; omega) (fun z => by unfold rqW at z; omega) (fun j z => by unfold rqW at z; omega)
theorem OST.cq {rs rs' : AS} {q t dp : Nat} {O : List Nat} (h : OST rs q O dp) (hw : Same (cqW q t) rs rs') : OST rs' q O dp := h.of hw (fun z => by unfold cqW at z; omega) (fun z => by unfold cqW at z; omega) (fun j z => by unfold cqW at z; omega)
theorem RR_.st {rs rs' : AS} {q t n p : Nat} {T : Nat → Nat} {m : Int32} {L : List (Nat × Nat)} (h : RR_ rs q t n T p m L) (hw : Same (stW q) rs rs') : RR_ rs' q t n T p m L := by
  have nq : ∀ j, j < 16 → ¬ stW q q j := fun j hj z => by unfold stW at z; omega
  have n1 : ∀ j, ¬ stW q (q + 1) j := fun j z => by unfold stW at z; omega
  exact ⟨⟨⟨by rw [(hw q 1 (nq _ (by decide))).1]; exact h.1.1.1, h.1.1.2.1, fun k hk => by rw [(hw (q + 1) k (n1 _)).1]; exact h.1.1.2.2 k hk⟩, by rw [(hw q 11 (nq _ (by decide))).1]; exact h.1.2.1, h.1.2.2.1, by rw [(hw q 12 (nq _ (by decide))).1]; exact h.1.2.2.2.1, by rw [(hw q 15 (nq _ (by decide))).1]; exact h.1.2.2.2.2⟩, by rw [(hw q 14 (nq _ (by decide))).1]; exact h.2.1, h.2.2.of hw (fun z => by unfold stW at z; omega) (fun j z => by unfold stW at z; omega)⟩
theorem st_pb {q t : Nat} {s1 s2 : AS} (h : Same (stW q) s1 s2) : Same (pbW q t) s1 s2 := h.mono (fun _ _ z => by
  unfold stW at z
  unfold pbW
  omega)
theorem getD_app {O P : List Nat} {k : Nat} : (O ++ P).getD k 0 = if k < O.length then O.getD k 0 else P.getD (k - O.length) 0 := by
  rw [List.getD_eq_getElem?_getD, List.getD_eq_getElem?_getD, List.getD_eq_getElem?_getD]
  by_cases h : k < O.length
  · rw [if_pos h, List.getElem?_append_left h]
  · rw [if_neg h, List.getElem?_append_right (by omega)]
theorem OST.top {rs : AS} {q dp c : Nat} {O : List Nat} (h : OST rs q (O ++ [c]) dp) : gi rs q 19 = nI (O.length + 1) ∧ gi rs (q + 11) O.length = nI c := by
  have h1 := h.2.1
  have h2 := h.2.2 O.length (by rw [List.length_append]; simp)
  rw [List.length_append] at h1
  rw [getD_app, if_neg (Nat.lt_irrefl _), Nat.sub_self] at h2
  exact ⟨h1, h2⟩
theorem OST.pop {rs : AS} {q dp c : Nat} {O : List Nat} (h : OST rs q (O ++ [c]) dp) : OST (ui rs q 19 (nI O.length)) q O dp := by
  refine ⟨by rw [gi_ui, if_neg (fun z => by omega)]; exact h.1, by rw [gi_ui, if_pos ⟨rfl, rfl⟩], fun k hk => ?_⟩
  have h2 := h.2.2 k (by rw [List.length_append]; omega)
  rw [getD_app, if_pos hk] at h2
  rw [gi_ui, if_neg (fun z => by omega)]
  exact h2
theorem OST.push {rs : AS} {q dp c : Nat} {O : List Nat} (h : OST rs q O dp) : OST (ui (ui rs (q + 11) O.length (nI c)) q 19 (nI (O.length + 1))) q (O ++ [c]) dp := by
  refine ⟨by rw [gi_ui, if_neg (fun z => by omega), gi_ui, if_neg (fun z => by omega)]; exact h.1, by rw [gi_ui, if_pos ⟨rfl, rfl⟩, List.length_append]; rfl, fun k hk => ?_⟩
  rw [List.length_append] at hk
  simp only [List.length_cons, List.length_nil] at hk
  rw [gi_ui, if_neg (fun z => by omega), gi_ui, getD_app]
  by_cases e : k < O.length
  · rw [if_pos e, if_neg (show ¬ (q + 11 = q + 11 ∧ k = O.length) from fun z => by omega)]
    exact h.2.2 k e
  · obtain rfl : k = O.length := by omega
    rw [if_neg e, if_pos (show q + 11 = q + 11 ∧ O.length = O.length from ⟨rfl, rfl⟩), Nat.sub_self]
    rfl
/-- how strong a sign binds -/
def prc (c : Nat) : Nat := if c = 13 then 1 else if c = 12 then 2 else if c = 11 then 3 else 0
theorem prc_e {κ : Ko} {st : AS} {c : Nat} (hc : c < 128) : f_R_prec κ (nI c) st = nI (prc c) := by
  unfold f_R_prec prc
  have c13 := (nI_ltk (m := c) (k := 13) (y := 13) rfl (by omega) (by decide)).2.2.2.2
  have c12 := (nI_ltk (m := c) (k := 12) (y := 12) rfl (by omega) (by decide)).2.2.2.2
  have c11 := (nI_ltk (m := c) (k := 11) (y := 11) rfl (by omega) (by decide)).2.2.2.2
  simp only [c13, c12, c11]
  by_cases k1 : c = 13
  · rw [if_pos k1, if_pos k1]; rfl
  · rw [if_neg k1, if_neg k1]
    by_cases k2 : c = 12
    · rw [if_pos k2, if_pos k2]; rfl
    · rw [if_neg k2, if_neg k2]
      by_cases k3 : c = 11
      · rw [if_pos k3, if_pos k3]; rfl
      · rw [if_neg k3, if_neg k3]; rfl
theorem prc_lt (c : Nat) : prc c < 4 := by
  unfold prc
  repeat' split
  all_goals decide
section Settle
variable {κ : Ko} {a ta A t iw n q p dp : Nat} {T : Nat → Nat} {rs : AS} {m : Int32} {L : List (Nat × Nat)} {O : List Nat}
theorem r_popS (hc : PC κ a ta A t iw) {c e X : Nat} {x1 : Int32} (h : RR_ rs q t n T p m L) (hO : OST rs q (O ++ [c]) dp) (hc8 : c < 128) (hX : X ≤ prc c) (hx : x1 = nI X) (hl : L.length < 400) (hl2 : O.length < 400) (hd : c = 11 → 1 ≤ dp) :
    ∃ rs', L_R_settles_0 κ (e + 1) q x1 rs = L_R_settles_0 κ e q x1 rs' ∧ RR_ rs' q t n T p m (L ++ [(c, 0)]) ∧ OST rs' q O (if c = 11 then dp - 1 else dp) ∧ Same (pbW q t) rs rs' := by
  have ht : t < 18 := by have := hc.2.2.2; omega
  have hpl := prc_lt c
  obtain ⟨h19, h11⟩ := hO.top
  have hP := hO.pop
  have w1 : Same (stW q) rs (ui rs q 19 (nI O.length)) := (Same.rf _ rs).ui (Or.inl ⟨rfl, by decide, by decide, by decide⟩)
  have R1 := h.st w1
  rw [L_R_settles_0, h19, if_neg (show ¬ nI (O.length + 1) ≤ 0 from nI_nle (by omega) (by omega)), nI_pred, grd_t (vp_in_nI hl2 (by decide)), nI_clamp (by omega), h11, prc_e hc8, hx, if_neg (show ¬ nI (prc c) < nI X from nI_nlt hX (by omega)), hP.2.1, nI_clamp (by omega), gi_ui, if_neg (show ¬ (q + 11 = q ∧ O.length = 19) from fun z => by omega), h11, grd_t (vp_in_nI hl2 (by decide))]
  obtain ⟨r2, g2, k2, v2⟩ := r_puts (κ := κ) R1.2.1 ht R1.2.2 hl (c, 0) (y := nI c) (z := 0) rfl rfl
  have R2 := R1.cd hc k2 v2
  have O2 := hP.cq v2
  have h11' : gi r2 (q + 11) O.length = nI c := by rw [(v2 (q + 11) O.length (fun z => by unfold cqW at z; omega)).1, gi_ui, if_neg (fun z => by omega)]; exact h11
  rw [g2, bnd_t, O2.2.1, grd_t (vp_in_nI hl2 (by decide)), nI_clamp (by omega), h11']
  have c11 := (nI_ltk (m := c) (k := 11) (y := 11) rfl (by omega) (by decide)).2.2.2.2
  simp only [c11]
  by_cases k : c = 11
  · rw [if_pos k, if_pos k, O2.1]
    have hd1 := hd k
    rw [show nI dp - 1 = nI (dp - 1) by rw [show (1 : Int32) = nI 1 from rfl, nI_sub hd1]]
    have w3 : Same (stW q) r2 (ui r2 q 16 (nI (dp - 1))) := (Same.rf _ r2).ui (Or.inl ⟨rfl, by decide, by decide, by decide⟩)
    refine ⟨_, rfl, R2.st w3, ⟨by rw [gi_ui, if_pos ⟨rfl, rfl⟩], by rw [gi_ui, if_neg (fun z => by omega)]; exact O2.2.1, fun j hj => by rw [gi_ui, if_neg (fun z => by omega)]; exact O2.2.2 j hj⟩, ((st_pb w1).tr (cq_pb v2)).tr (st_pb w3)⟩
  · rw [if_neg k, if_neg k]
    exact ⟨r2, rfl, R2, O2, (st_pb w1).tr (cq_pb v2)⟩
theorem r_stopS {c e X : Nat} {x1 : Int32} (hO : OST rs q (O ++ [c]) dp) (hc8 : c < 128) (hX : prc c < X) (hX2 : X < 100) (hx : x1 = nI X) (hl2 : O.length < 400) : L_R_settles_0 κ (e + 1) q x1 rs = some rs := by
  obtain ⟨h19, h11⟩ := hO.top
  rw [L_R_settles_0, h19, if_neg (show ¬ nI (O.length + 1) ≤ 0 from nI_nle (by omega) (by omega)), nI_pred, grd_t (vp_in_nI hl2 (by decide)), nI_clamp (by omega), h11, prc_e hc8, hx, if_pos (show nI (prc c) < nI X from nI_lt hX (by omega))]
theorem r_stop0 {e : Nat} {x1 : Int32} (hO : OST rs q [] dp) : L_R_settles_0 κ (e + 1) q x1 rs = some rs := by
  rw [L_R_settles_0, hO.2.1, if_pos (show nI ([] : List Nat).length ≤ 0 by decide)]
/-- what lies at a test's level: or, and; their codes, from the top -/
def pl (W B : Bool) : List Nat := (if W then [13] else []) ++ (if B then [12] else [])
def pc (W B : Bool) : List (Nat × Nat) := (if B then [(12, 0)] else []) ++ (if W then [(13, 0)] else [])
/-- the bottom of a level -/
def bas (O : List Nat) : Prop := O = [] ∨ ∃ O0, O = O0 ++ [91]
theorem r_stopB {e X : Nat} {x1 : Int32} (hO : OST rs q O dp) (hb : bas O) (hX : 0 < X) (hX2 : X < 100) (hx : x1 = nI X) (hl2 : O.length < 400) : L_R_settles_0 κ (e + 1) q x1 rs = some rs := by
  rcases hb with rfl | ⟨O0, rfl⟩
  · exact r_stop0 hO
  · rw [List.length_append] at hl2
    exact r_stopS hO (by decide) hX hX2 hx (by omega)
theorem r_settle1 (hc : PC κ a ta A t iw) {W B : Bool} {e : Nat} (h : RR_ rs q t n T p m L) (hO : OST rs q (O ++ pl W B) dp) (hb : bas O) (hl : L.length + (pc W B).length ≤ 400) (hl2 : O.length + (pc W B).length < 400) :
    ∃ rs', L_R_settles_0 κ (e + 3) q 1 rs = some rs' ∧ RR_ rs' q t n T p m (L ++ pc W B) ∧ OST rs' q O dp ∧ Same (pbW q t) rs rs' := by
  match W, B, hO, hl, hl2 with
  | false, false, hO, hl, hl2 =>
    have hpc : (pc false false).length = 0 := rfl
    rw [show O ++ pl false false = O from List.append_nil O] at hO
    rw [show L ++ pc false false = L from List.append_nil L]
    exact ⟨rs, r_stopB hO hb (by decide) (by decide) (X := 1) rfl (by omega), h, hO, Same.rf _ _⟩
  | true, false, hO, hl, hl2 =>
    have hpc : (pc true false).length = 1 := rfl
    obtain ⟨r1, g1, k1, o1, v1⟩ := r_popS (κ := κ) hc (e := e + 2) (c := 13) (X := 1) (x1 := 1) h hO (by decide) (by decide) rfl (by omega) (by omega) (fun z => by cases z)
    refine ⟨r1, ?_, k1, o1, v1⟩
    rw [g1]
    exact r_stopB o1 hb (by decide) (by decide) (X := 1) rfl (by omega)
  | false, true, hO, hl, hl2 =>
    have hpc : (pc false true).length = 1 := rfl
    obtain ⟨r1, g1, k1, o1, v1⟩ := r_popS (κ := κ) hc (e := e + 2) (c := 12) (X := 1) (x1 := 1) h hO (by decide) (by decide) rfl (by omega) (by omega) (fun z => by cases z)
    refine ⟨r1, ?_, k1, o1, v1⟩
    rw [g1]
    exact r_stopB o1 hb (by decide) (by decide) (X := 1) rfl (by omega)
  | true, true, hO, hl, hl2 =>
    have hpc : (pc true true).length = 2 := rfl
    have hO' : OST rs q ((O ++ [13]) ++ [12]) dp := by
      have : (O ++ [13]) ++ [12] = O ++ pl true true := by unfold pl; simp
      rw [this]; exact hO
    obtain ⟨r1, g1, k1, o1, v1⟩ := r_popS (κ := κ) hc (e := e + 2) (c := 12) (X := 1) (x1 := 1) h hO' (by decide) (by decide) rfl (by omega) (by rw [List.length_append]; simp; omega) (fun z => by cases z)
    rw [if_neg (show ¬ 12 = 11 by decide)] at o1
    obtain ⟨r2, g2, k2, o2, v2⟩ := r_popS (κ := κ) hc (e := e + 1) (c := 13) (X := 1) (x1 := 1) k1 o1 (by decide) (by decide) rfl (by rw [List.length_append]; simp; omega) (by omega) (fun z => by cases z)
    refine ⟨r2, ?_, ?_, o2, v1.tr v2⟩
    · rw [g1, g2]
      exact r_stopB o2 hb (by decide) (by decide) (X := 1) rfl (by omega)
    · have : L ++ pc true true = L ++ [(12, 0)] ++ [(13, 0)] := by unfold pc; simp
      rw [this]; exact k2
theorem r_settle2 (hc : PC κ a ta A t iw) {W B : Bool} {e : Nat} (h : RR_ rs q t n T p m L) (hO : OST rs q (O ++ pl W B) dp) (hb : bas O) (hl : L.length + (pc W B).length ≤ 400) (hl2 : O.length + (pc W B).length < 400) :
    ∃ rs', L_R_settles_0 κ (e + 3) q 2 rs = some rs' ∧ RR_ rs' q t n T p m (L ++ pc false B) ∧ OST rs' q (O ++ pl W false) dp ∧ Same (pbW q t) rs rs' := by
  match W, B, hO, hl, hl2 with
  | false, false, hO, hl, hl2 =>
    have hpc : (pc false false).length = 0 := rfl
    rw [show O ++ pl false false = O from List.append_nil O] at hO ⊢
    rw [show L ++ pc false false = L from List.append_nil L]
    exact ⟨rs, r_stopB hO hb (by decide) (by decide) (X := 2) rfl (by omega), h, hO, Same.rf _ _⟩
  | true, false, hO, hl, hl2 =>
    have hpc : (pc true false).length = 1 := rfl
    rw [show L ++ pc false false = L from List.append_nil L]
    exact ⟨rs, r_stopS (κ := κ) (c := 13) hO (by decide) (by decide) (by decide) (X := 2) rfl (by omega), h, hO, Same.rf _ _⟩
  | false, true, hO, hl, hl2 =>
    have hpc : (pc false true).length = 1 := rfl
    obtain ⟨r1, g1, k1, o1, v1⟩ := r_popS (κ := κ) hc (e := e + 2) (c := 12) (X := 2) (x1 := 2) h hO (by decide) (by decide) rfl (by omega) (by omega) (fun z => by cases z)
    rw [show O ++ pl false false = O from List.append_nil O]
    refine ⟨r1, ?_, k1, o1, v1⟩
    rw [g1]
    exact r_stopB o1 hb (by decide) (by decide) (X := 2) rfl (by omega)
  | true, true, hO, hl, hl2 =>
    have hpc : (pc true true).length = 2 := rfl
    have hO' : OST rs q ((O ++ [13]) ++ [12]) dp := by
      have : (O ++ [13]) ++ [12] = O ++ pl true true := by unfold pl; simp
      rw [this]; exact hO
    obtain ⟨r1, g1, k1, o1, v1⟩ := r_popS (κ := κ) hc (e := e + 2) (c := 12) (X := 2) (x1 := 2) h hO' (by decide) (by decide) rfl (by omega) (by rw [List.length_append]; simp; omega) (fun z => by cases z)
    rw [if_neg (show ¬ 12 = 11 by decide)] at o1
    refine ⟨r1, ?_, k1, o1, v1⟩
    rw [g1]
    exact r_stopS (κ := κ) (c := 13) o1 (by decide) (by decide) (by decide) (X := 2) rfl (by omega)
theorem r_settle3 {W B : Bool} {e : Nat} (hO : OST rs q (O ++ pl W B) dp) (hb : bas O) (hl2 : O.length + (pc W B).length < 400) : L_R_settles_0 κ (e + 1) q 3 rs = some rs := by
  match W, B, hO, hl2 with
  | false, false, hO, hl2 =>
    have hpc : (pc false false).length = 0 := rfl
    rw [show O ++ pl false false = O from List.append_nil O] at hO
    exact r_stopB hO hb (by decide) (by decide) (X := 3) rfl (by omega)
  | true, false, hO, hl2 =>
    have hpc : (pc true false).length = 1 := rfl
    exact r_stopS (κ := κ) (c := 13) hO (by decide) (by decide) (by decide) (X := 3) rfl (by omega)
  | false, true, hO, hl2 =>
    have hpc : (pc false true).length = 1 := rfl
    exact r_stopS (κ := κ) (c := 12) hO (by decide) (by decide) (by decide) (X := 3) rfl (by omega)
  | true, true, hO, hl2 =>
    have hpc : (pc true true).length = 2 := rfl
    have hO' : OST rs q ((O ++ [13]) ++ [12]) dp := by
      have : (O ++ [13]) ++ [12] = O ++ pl true true := by unfold pl; simp
      rw [this]; exact hO
    exact r_stopS (κ := κ) (c := 12) hO' (by decide) (by decide) (by decide) (X := 3) rfl (by rw [List.length_append]; simp; omega)
theorem r_in1 (hO : OST rs q O dp) (hl : O.length ≤ 400) {j : Nat} (hj : j < O.length) (h91 : O.getD j 0 = 91) : f_R_isInside κ q rs = some 1 := by
  unfold f_R_isInside
  have main : ∀ (r k d : Nat), r < d → k + r = j → L_R_isInside_2 κ rs d q (nI k) = some 1 := by
    intro r
    induction r with
    | zero =>
      intro k d hd hk
      obtain ⟨d, rfl⟩ : ∃ e, d = e + 1 := ⟨d - 1, by omega⟩
      obtain rfl : k = j := by omega
      rw [L_R_isInside_2, hO.2.1, if_neg (nI_ge hj (by omega)), grd_t (vp_in_nI (by omega) (by decide)), nI_clamp (by omega), hO.2.2 k hj, h91]
      rfl
    | succ r ih =>
      intro k d hd hk
      obtain ⟨d, rfl⟩ : ∃ e, d = e + 1 := ⟨d - 1, by omega⟩
      rw [L_R_isInside_2, hO.2.1, if_neg (nI_ge (by omega) (by omega)), grd_t (vp_in_nI (by omega) (by decide)), nI_1]
      split
      · rfl
      · exact ih (k + 1) d (by omega) (by omega)
  exact main j 0 FU (FUn (by omega)) (by omega)
theorem r_in0 (hO : OST rs q O dp) (hl : O.length ≤ 400) (h91 : ∀ j, j < O.length → O.getD j 0 < 128 ∧ O.getD j 0 ≠ 91) : f_R_isInside κ q rs = some 0 := by
  unfold f_R_isInside
  have main : ∀ (r k d : Nat), r < d → k + r = O.length → L_R_isInside_2 κ rs d q (nI k) = some 0 := by
    intro r
    induction r with
    | zero =>
      intro k d hd hk
      obtain ⟨d, rfl⟩ : ∃ e, d = e + 1 := ⟨d - 1, by omega⟩
      rw [L_R_isInside_2, hO.2.1, if_pos (nI_le (by omega) (by omega))]
    | succ r ih =>
      intro k d hd hk
      obtain ⟨d, rfl⟩ : ∃ e, d = e + 1 := ⟨d - 1, by omega⟩
      have h9 := h91 k (by omega)
      rw [L_R_isInside_2, hO.2.1, if_neg (nI_ge (by omega) (by omega)), grd_t (vp_in_nI (by omega) (by decide)), nI_1, nI_clamp (by omega), hO.2.2 k (by omega)]
      have c91 := (nI_ltk (m := O.getD k 0) (k := 91) (y := 91) rfl (by omega) (by decide)).2.2.2.2
      rw [if_neg (fun z => h9.2 (c91.mp z))]
      exact ih (k + 1) d (by omega) (by omega)
  exact main O.length 0 FU (FUn (by omega)) (by omega)
end Settle
