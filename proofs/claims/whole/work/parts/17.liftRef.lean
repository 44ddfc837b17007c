noncomputable def L_R_four_3 (κ : Ko) : Nat → Nat → Int32 → Int32 → AS → Option AS
  | 0, _, _, _, _ => none
  | d + 1, a0, x1, x2, st => if x2 < 0 then some st else grd (vp_in (gi st a0 1) 400) (L_R_four_3 κ  d a0 x1 (x2 + (-8)) (ui (ui st (a0 + 1) (gi st a0 1 : Int32).toNatClampNeg (vp_nar .byte ((x1 >>> ((x2 : Int32) &&& 31) : Int32).toInt8.toInt32))) a0 1 ((gi (ui st (a0 + 1) (gi st a0 1 : Int32).toNatClampNeg (vp_nar .byte ((x1 >>> ((x2 : Int32) &&& 31) : Int32).toInt8.toInt32))) a0 1) + 1)))
noncomputable def f_R_four (κ : Ko) (a0 : Nat) (x1 : Int32) (st : AS) : Option AS := L_R_four_3 κ  FU a0 x1 (24 : Int32) st
theorem l_R_four_3 {κ : Ko} {F : AS → Prop} {s' : AS} (k : F s') : ∀ (d : Nat) (a0 : Nat) (x1 : Int32) (x2 : Int32) (st : AS), ly κ a0 = (12, 36) → L_R_four_3 κ  d a0 x1 x2 st = some s' → V κ M_R_four (RV F) 3 [some (.ref a0), some (.int x1), some (.int x2)] [] st := by
  intro d
  induction d with
  | zero =>
    intro a0 x1 x2 st l_a0 h
    exact nn_some h
  | succ d ih =>
    intro a0 x1 x2 st l_a0 h
    rw [L_R_four_3] at h
    refine b_R_four_3  (k1 := fun e2 => ?_) (k2 := fun e2 => ?_)
    · replace h := if_t e2 h
      exact b_R_four_36  (k1 := lfV h k)
    · replace h := if_f e2 h
      obtain ⟨h1, h⟩ := grd_some h
      refine b_R_four_7 (l_a0 := l_a0) (b1 := h1) (k2 := ?_)
      exact ih _ _ _ _ l_a0 h
theorem t_R_four {κ : Ko} {F : AS → Prop} {a0 : Nat} {x1 : Int32} {st : AS} {s' : AS} (l_a0 : ly κ a0 = (12, 36)) (h : f_R_four κ a0 x1 st = some s') (k : F s') : C κ M_R_four [.ref a0, .int x1] st (RV F) := by
  unfold f_R_four at h
  refine e_R_four ?_
  refine b_R_four_0  (k1 := ?_)
  refine l_R_four_3 k FU _ _ _ _ l_a0 h
noncomputable def f_R_feed (κ : Ko) (a0 : Nat) (x1 : Int32) (x2 : Int32) (x3 : Int32) (x4 : Int32) (x5 : Int32) (st : AS) : Option (Int32 × AS) := if ((gi st a0 1) + 20) ≤ 400 then bnd (f_R_four κ a0 x1 st) (fun s1 => bnd (f_R_four κ a0 x2 s1) (fun s2 => bnd (f_R_four κ a0 x3 s2) (fun s3 => bnd (f_R_four κ a0 x4 s3) (fun s4 => bnd (f_R_four κ a0 x5 s4) (fun s5 => some (gi s5 a0 1, s5)))))) else some (((-1) : Int32), st)
theorem t_R_feed {κ : Ko} {F : Int32 → AS → Prop} {a0 : Nat} {x1 : Int32} {x2 : Int32} {x3 : Int32} {x4 : Int32} {x5 : Int32} {st : AS} {v : Int32} {s' : AS} (l_a0 : ly κ a0 = (12, 36)) (h : f_R_feed κ a0 x1 x2 x3 x4 x5 st = some (v, s')) (k : F v s') : C κ M_R_feed [.ref a0, .int x1, .int x2, .int x3, .int x4, .int x5] st (RI F) := by
  unfold f_R_feed at h
  refine e_R_feed ?_
  refine b_R_feed_0 (l_a0 := l_a0) (k1 := fun e6 => ?_) (k2 := fun e6 => ?_)
  · replace h := if_t e6 h
    obtain ⟨s1, h7, h⟩ := bnd_some h
    refine b_R_feed_15 (l_a0 := l_a0) (k1 := t_R_four l_a0 h7 ?_)
    obtain ⟨s2, h8, h⟩ := bnd_some h
    refine b_R_feed_20 (l_a0 := l_a0) (k1 := t_R_four l_a0 h8 ?_)
    obtain ⟨s3, h9, h⟩ := bnd_some h
    refine b_R_feed_25 (l_a0 := l_a0) (k1 := t_R_four l_a0 h9 ?_)
    obtain ⟨s4, h10, h⟩ := bnd_some h
    refine b_R_feed_30 (l_a0 := l_a0) (k1 := t_R_four l_a0 h10 ?_)
    obtain ⟨s5, h11, h⟩ := bnd_some h
    refine b_R_feed_36 (l_a0 := l_a0) (k1 := t_R_four l_a0 h11 ?_)
    exact b_R_feed_42 (l_a0 := l_a0) (k1 := lfI h k)
  · replace h := if_f e6 h
    exact b_R_feed_13  (k1 := lfI h k)
noncomputable def f_R_end (κ : Ko) (a0 : Nat) (x1 : Int32) (st : AS) : (Int32 × AS) := jn ((((-1) : Int32), st)) fun j1 => if x1 < 0 then j1 else if x1 ≤ (gi st a0 1) then (x1, ui st a0 1 x1) else j1
theorem t_R_end {κ : Ko} {F : Int32 → AS → Prop} {a0 : Nat} {x1 : Int32} {st : AS} {v : Int32} {s' : AS} (l_a0 : ly κ a0 = (12, 36)) (h : f_R_end κ a0 x1 st = (v, s')) (k : F v s') : C κ M_R_end [.ref a0, .int x1] st (RI F) := by
  unfold f_R_end at h
  refine e_R_end ?_
  obtain ⟨j1, hdj1, h⟩ := jn_some h
  have hj1 : j1 = (v, s') → V κ M_R_end (RI F) 12 [none, none] [] st := by
    intro h
    rw [hdj1] at h
    exact b_R_end_12  (k1 := lfIT h k)
  clear hdj1
  refine b_R_end_0  (k1 := fun e2 => ?_) (k2 := fun e2 => ?_)
  · replace h := if_t e2 h
    exact hj1  h
  · replace h := if_f e2 h
    refine b_R_end_4 (l_a0 := l_a0) (k1 := fun e3 => ?_) (k2 := fun e3 => ?_)
    · replace h := if_t e3 h
      exact b_R_end_14 (l_a0 := l_a0) (k1 := lfIT h k)
    · replace h := if_f e3 h
      exact hj1  h
noncomputable def L_R_see_0 (κ : Ko) (k_38 : Nat → AS → Option (Int32 × AS)) : Nat → Nat → AS → Option (Int32 × AS)
  | 0, _, _ => none
  | d + 1, a0, st => if (gi st a0 1) ≤ (gi st a0 11) then k_38 a0 st else grd (vp_in (gi st a0 11) 400) (if (gi st (a0 + 1) (gi st a0 11 : Int32).toNatClampNeg) = 32 then L_R_see_0 κ k_38 d a0 (ui st a0 11 ((gi st a0 11) + 1)) else k_38 a0 st)
noncomputable def f_R_see (κ : Ko) (a0 : Nat) (st : AS) : Option (Int32 × AS) := L_R_see_0 κ (fun (v4 : Nat) (s6 : AS) => if (gi s6 v4 1) ≤ (gi s6 v4 11) then some (((-1) : Int32), s6) else grd (vp_in (gi s6 v4 11) 400) (some ((gi s6 (v4 + 1) (gi s6 v4 11 : Int32).toNatClampNeg) &&& 255, s6))) FU a0 st
theorem l_R_see_0 {κ : Ko} {F : Int32 → AS → Prop} {v : Int32} {s' : AS} (k : F v s') {k_38 : Nat → AS → Option (Int32 × AS)} (hk_38 : ∀ (a0 : Nat) (st : AS), ly κ a0 = (12, 36) → k_38 a0 st = some (v, s') → V κ M_R_see (RI F) 38 [some (.ref a0)] [] st) : ∀ (d : Nat) (a0 : Nat) (st : AS), ly κ a0 = (12, 36) → L_R_see_0 κ k_38 d a0 st = some (v, s') → V κ M_R_see (RI F) 0 [some (.ref a0)] [] st := by
  intro d
  induction d with
  | zero =>
    intro a0 st l_a0 h
    exact nn_some h
  | succ d ih =>
    intro a0 st l_a0 h
    rw [L_R_see_0] at h
    refine b_R_see_0 (l_a0 := l_a0) (k1 := fun e2 => ?_) (k2 := fun e2 => ?_)
    · replace h := if_t e2 h
      exact hk_38 _ _ l_a0 h
    · replace h := if_f e2 h
      obtain ⟨h1, h⟩ := grd_some h
      refine b_R_see_11 (l_a0 := l_a0) (b1 := h1) (k2 := fun e3 => ?_) (k3 := fun e3 => ?_)
      · replace h := if_f e3 h
        exact hk_38 _ _ l_a0 h
      · replace h := if_t e3 h
        refine b_R_see_25 (l_a0 := l_a0) (k1 := ?_)
        exact ih _ _ l_a0 h
theorem t_R_see {κ : Ko} {F : Int32 → AS → Prop} {a0 : Nat} {st : AS} {v : Int32} {s' : AS} (l_a0 : ly κ a0 = (12, 36)) (h : f_R_see κ a0 st = some (v, s')) (k : F v s') : C κ M_R_see [.ref a0] st (RI F) := by
  unfold f_R_see at h
  refine e_R_see ?_
  refine l_R_see_0 k ?_ FU _ _ l_a0 h
  · intro v4 s6 l5 h
    refine b_R_see_38 (l_a0 := l5) (k1 := fun e8 => ?_) (k2 := fun e8 => ?_)
    · replace h := if_t e8 h
      exact b_R_see_65  (k1 := lfI h k)
    · replace h := if_f e8 h
      obtain ⟨h7, h⟩ := grd_some h
      exact b_R_see_49 (l_a0 := l5) (b1 := h7) (k2 := lfI h k)
noncomputable def f_R_isDigit (κ : Ko) (a0 : Nat) (x1 : Int32) (st : AS) : Option Int32 := jn (some (0 : Int32)) fun j3 => if (gi st a0 1) ≤ x1 then j3 else grd (vp_in x1 400) (if (gi st (a0 + 1) (x1 : Int32).toNatClampNeg) < 48 then j3 else grd (vp_in x1 400) (if 57 < (gi st (a0 + 1) (x1 : Int32).toNatClampNeg) then j3 else some (1 : Int32)))
theorem t_R_isDigit {κ : Ko} {F : Int32 → AS → Prop} {a0 : Nat} {x1 : Int32} {st : AS} {v : Int32} (l_a0 : ly κ a0 = (12, 36)) (h : f_R_isDigit κ a0 x1 st = some v) (k : F v st) : C κ M_R_isDigit [.ref a0, .int x1] st (RI F) := by
  unfold f_R_isDigit at h
  refine e_R_isDigit ?_
  obtain ⟨j3, hdj3, h⟩ := jn_some h
  have hj3 : j3 = some v → V κ M_R_isDigit (RI F) 34 [none, none] [] st := by
    intro h
    rw [hdj3] at h
    exact b_R_isDigit_34  (k1 := lfIP h k)
  clear hdj3
  refine b_R_isDigit_0 (l_a0 := l_a0) (k1 := fun e4 => ?_) (k2 := fun e4 => ?_)
  · replace h := if_t e4 h
    exact hj3  h
  · replace h := if_f e4 h
    obtain ⟨h1, h⟩ := grd_some h
    refine b_R_isDigit_8 (l_a0 := l_a0) (b1 := h1) (k2 := fun e5 => ?_) (k3 := fun e5 => ?_)
    · replace h := if_t e5 h
      exact hj3  h
    · replace h := if_f e5 h
      obtain ⟨h2, h⟩ := grd_some h
      refine b_R_isDigit_19 (l_a0 := l_a0) (b1 := h2) (k2 := fun e6 => ?_) (k3 := fun e6 => ?_)
      · replace h := if_t e6 h
        exact hj3  h
      · replace h := if_f e6 h
        exact b_R_isDigit_30  (k1 := lfIP h k)
noncomputable def f_R_fails (κ : Ko) (a0 : Nat) (x1 : Int32) (x2 : Int32) (st : AS) : (Int32 × AS) := if (gi st a0 12) = 0 then ((0 : Int32), ui st a0 12 (((1 : Int32) + ((8 : Int32) * x2)) + x1)) else ((0 : Int32), st)
theorem t_R_fails {κ : Ko} {F : Int32 → AS → Prop} {a0 : Nat} {x1 : Int32} {x2 : Int32} {st : AS} {v : Int32} {s' : AS} (l_a0 : ly κ a0 = (12, 36)) (h : f_R_fails κ a0 x1 x2 st = (v, s')) (k : F v s') : C κ M_R_fails [.ref a0, .int x1, .int x2] st (RI F) := by
  unfold f_R_fails at h
  refine e_R_fails ?_
  refine b_R_fails_0 (l_a0 := l_a0) (k1 := fun e1 => ?_) (k2 := fun e1 => ?_)
  · replace h := if_f e1 h
    exact b_R_fails_19  (k1 := lfIT h k)
  · replace h := if_t e1 h
    exact b_R_fails_7 (l_a0 := l_a0) (k1 := lfIT h k)
noncomputable def L_R_numberHere_34 (κ : Ko) (k_88 : Nat → Int32 → Int32 → Int32 → Int32 → AS → Option (Int32 × AS)) : Nat → Nat → Int32 → Int32 → Int32 → Int32 → AS → Option (Int32 × AS)
  | 0, _, _, _, _, _, _ => none
  | d + 1, a0, x1, x2, x3, x4, st => bnd (f_R_isDigit κ a0 (gi st a0 11) st) (fun v4 => if v4 = 0 then k_88 a0 x1 x2 x3 x4 st else jn (fun (v7 : Int32) => L_R_numberHere_34 κ k_88 d a0 x1 x2 x3 v7 (ui st a0 11 ((gi st a0 11) + 1))) fun j6 => if 5 ≤ ((gi st a0 11) - x3) then j6 x4 else grd (vp_in (gi st a0 11) 400) (j6 ((((10 : Int32) * x4) + (gi st (a0 + 1) (gi st a0 11 : Int32).toNatClampNeg)) - 48)))
noncomputable def f_R_numberHere (κ : Ko) (a0 : Nat) (x1 : Int32) (x2 : Int32) (st : AS) : Option (Int32 × AS) := bnd2 (f_R_see κ a0 st) (fun v1 s2 => bnd (f_R_isDigit κ a0 (gi s2 a0 11) s2) (fun v3 => if v3 = 0 then grd (((f_R_fails κ a0 (0 : Int32) (gi s2 a0 11) s2).1) = 0 ∨ ((f_R_fails κ a0 (0 : Int32) (gi s2 a0 11) s2).1) = 1) (some (((f_R_fails κ a0 (0 : Int32) (gi s2 a0 11) s2).1), ((f_R_fails κ a0 (0 : Int32) (gi s2 a0 11) s2).2))) else L_R_numberHere_34 κ (fun (v11 : Nat) (v13 : Int32) (v14 : Int32) (v15 : Int32) (v16 : Int32) (s17 : AS) => jn (fun (s21 : AS) => some ((1 : Int32), s21)) fun j20 => jn (fun (s19 : AS) => if ((f_R_fails κ v11 (1 : Int32) v15 s19).1) = 0 then some ((0 : Int32), ((f_R_fails κ v11 (1 : Int32) v15 s19).2)) else j20 ((f_R_fails κ v11 (1 : Int32) v15 s19).2)) fun j18 => if 5 < ((gi (ui s17 v11 13 v16) v11 11) - v15) then j18 (ui s17 v11 13 v16) else if (wi ((v16 : Int32).toInt64) ((v13 : Int32).toInt64) ((v14 : Int32).toInt64)) = 0 then j18 (ui s17 v11 13 v16) else j20 (ui s17 v11 13 v16)) FU a0 x1 x2 (gi s2 a0 11) (0 : Int32) s2))
theorem l_R_numberHere_34 {κ : Ko} {F : Int32 → AS → Prop} {v : Int32} {s' : AS} (k : F v s') {k_88 : Nat → Int32 → Int32 → Int32 → Int32 → AS → Option (Int32 × AS)} (hk_88 : ∀ (a0 : Nat) (x1 : Int32) (x2 : Int32) (x3 : Int32) (x4 : Int32) (st : AS), ly κ a0 = (12, 36) → k_88 a0 x1 x2 x3 x4 st = some (v, s') → V κ M_R_numberHere (RI F) 88 [some (.ref a0), some (.int x1), some (.int x2), some (.int x3), some (.int x4)] [] st) : ∀ (d : Nat) (a0 : Nat) (x1 : Int32) (x2 : Int32) (x3 : Int32) (x4 : Int32) (st : AS), ly κ a0 = (12, 36) → L_R_numberHere_34 κ k_88 d a0 x1 x2 x3 x4 st = some (v, s') → V κ M_R_numberHere (RI F) 34 [some (.ref a0), some (.int x1), some (.int x2), some (.int x3), some (.int x4)] [] st := by
  intro d
  induction d with
  | zero =>
    intro a0 x1 x2 x3 x4 st l_a0 h
    exact nn_some h
  | succ d ih =>
    intro a0 x1 x2 x3 x4 st l_a0 h
    rw [L_R_numberHere_34] at h
    obtain ⟨v4, h8, h⟩ := bnd_some h
    refine b_R_numberHere_34 (l_a0 := l_a0) (k1 := t_R_isDigit l_a0 h8 ?_)
    refine b_R_numberHere_42  (k1 := fun e9 => ?_) (k2 := fun e9 => ?_)
    · replace h := if_t e9 h
      exact hk_88 _ _ _ _ _ _ l_a0 h
    · replace h := if_f e9 h
      obtain ⟨j6, hdj6, h⟩ := jn_some h
      have hj6 : ∀ (v7 : Int32), j6 v7 = some (v, s') → V κ M_R_numberHere (RI F) 75 [some (.ref a0), some (.int x1), some (.int x2), some (.int x3), some (.int v7)] [] st := by
        intro v7 h
        rw [hdj6] at h
        refine b_R_numberHere_75 (l_a0 := l_a0) (k1 := ?_)
        exact ih _ _ _ _ _ _ l_a0 h
      clear hdj6
      refine b_R_numberHere_45 (l_a0 := l_a0) (k1 := fun e10 => ?_) (k2 := fun e10 => ?_)
      · replace h := if_t e10 h
        exact hj6 _  h
      · replace h := if_f e10 h
        obtain ⟨h5, h⟩ := grd_some h
        refine b_R_numberHere_55 (l_a0 := l_a0) (b1 := h5) (k2 := ?_)
        exact hj6 _  h
theorem t_R_numberHere {κ : Ko} {F : Int32 → AS → Prop} {a0 : Nat} {x1 : Int32} {x2 : Int32} {st : AS} {v : Int32} {s' : AS} (l_a0 : ly κ a0 = (12, 36)) (h : f_R_numberHere κ a0 x1 x2 st = some (v, s')) (k : F v s') : C κ M_R_numberHere [.ref a0, .int x1, .int x2] st (RI F) := by
  unfold f_R_numberHere at h
  refine e_R_numberHere ?_
  obtain ⟨v1, s2, h23, h⟩ := bnd2_some h
  refine b_R_numberHere_0 (l_a0 := l_a0) (k1 := t_R_see l_a0 h23 ?_)
  obtain ⟨v3, h24, h⟩ := bnd_some h
  refine b_R_numberHere_4 (l_a0 := l_a0) (k1 := t_R_isDigit l_a0 h24 ?_)
  refine b_R_numberHere_13  (k1 := fun e25 => ?_) (k2 := fun e25 => ?_)
  · replace h := if_f e25 h
    refine b_R_numberHere_26 (l_a0 := l_a0) (k1 := ?_)
    refine l_R_numberHere_34 k ?_ FU _ _ _ _ _ _ l_a0 h
    · intro v11 v13 v14 v15 v16 s17 l12 h
      obtain ⟨j20, hdj20, h⟩ := jn_some h
      have hj20 : ∀ (s21 : AS), j20 s21 = some (v, s') → V κ M_R_numberHere (RI F) 126 [none, none, none, none, none] [] s21 := by
        intro s21 h
        rw [hdj20] at h
        exact b_R_numberHere_126  (k1 := lfI h k)
      clear hdj20
      obtain ⟨j18, hdj18, h⟩ := jn_some h
      have hj18 : ∀ (s19 : AS), j18 s19 = some (v, s') → V κ M_R_numberHere (RI F) 117 [some (.ref v11), none, none, some (.int v15), none] [] s19 := by
        intro s19 h
        rw [hdj18] at h
        refine b_R_numberHere_117 (l_a0 := l12) (k1 := t_R_fails l12 rfl ?_)
        refine b_R_numberHere_123  (k1 := fun e26 => ?_) (k2 := fun e26 => ?_)
        · replace h := if_t e26 h
          exact b_R_numberHere_130  (k1 := lfI h k)
        · replace h := if_f e26 h
          exact hj20 _  h
      clear hdj18
      refine b_R_numberHere_88 (l_a0 := l12) (k1 := fun e27 => ?_) (k2 := fun e27 => ?_)
      · replace h := if_t e27 h
        exact hj18 _  h
      · replace h := if_f e27 h
        refine b_R_numberHere_104  (k1 := t_R_in  rfl ?_)
        refine b_R_numberHere_114  (k1 := fun e28 => ?_) (k2 := fun e28 => ?_)
        · replace h := if_f e28 h
          exact hj20 _  h
        · replace h := if_t e28 h
          exact hj18 _  h
  · replace h := if_t e25 h
    refine b_R_numberHere_16 (l_a0 := l_a0) (k1 := t_R_fails l_a0 rfl ?_)
    obtain ⟨h22, h⟩ := grd_some h
    exact b_R_numberHere_25 (nz2 := h22) (k1 := lfI h k)
noncomputable def L_R_stripHere_33 (κ : Ko) (k_62 : Nat → AS → Option (Int32 × AS)) : Nat → Nat → Int32 → AS → Option (Int32 × AS)
  | 0, _, _, _ => none
  | d + 1, a0, x1, st => bnd2 (f_R_see κ a0 st) (fun v5 s6 => jn (fun (s10 : AS) => grd (vp_in x1 6) (if (gi s10 (a0 + 10) (x1 : Int32).toNatClampNeg) = 20 then k_62 a0 s10 else jn (fun (v15 : Int32) => grd (vp_in (((20 : Int32) * x1) + (gi s10 (a0 + 10) (x1 : Int32).toNatClampNeg)) 120) (bnd2 (f_R_numberHere κ a0 (1 : Int32) (9999 : Int32) (ui (ui s10 (a0 + 9) ((((20 : Int32) * x1) + (gi s10 (a0 + 10) (x1 : Int32).toNatClampNeg)) : Int32).toNatClampNeg v15) a0 11 ((gi (ui s10 (a0 + 9) ((((20 : Int32) * x1) + (gi s10 (a0 + 10) (x1 : Int32).toNatClampNeg)) : Int32).toNatClampNeg v15) a0 11) + 1))) (fun v17 s18 => if v17 = 0 then some ((0 : Int32), s18) else grd (vp_in x1 6) (grd (vp_in x1 6) (grd (vp_in x1 6) (grd (vp_in (((21 : Int32) * x1) + (gi (ui s18 (a0 + 10) (x1 : Int32).toNatClampNeg ((gi s18 (a0 + 10) (x1 : Int32).toNatClampNeg) + 1)) (a0 + 10) (x1 : Int32).toNatClampNeg)) 126) (L_R_stripHere_33 κ k_62 d a0 x1 (ui (ui s18 (a0 + 10) (x1 : Int32).toNatClampNeg ((gi s18 (a0 + 10) (x1 : Int32).toNatClampNeg) + 1)) (a0 + 8) (((21 : Int32) * x1) + (gi (ui s18 (a0 + 10) (x1 : Int32).toNatClampNeg ((gi s18 (a0 + 10) (x1 : Int32).toNatClampNeg) + 1)) (a0 + 10) (x1 : Int32).toNatClampNeg) : Int32).toNatClampNeg (gi (ui s18 (a0 + 10) (x1 : Int32).toNatClampNeg ((gi s18 (a0 + 10) (x1 : Int32).toNatClampNeg) + 1)) a0 13))))))))) fun j14 => grd (vp_in x1 6) (grd (vp_in (gi s10 a0 11) 400) (if (gi s10 (a0 + 1) (gi s10 a0 11 : Int32).toNatClampNeg) = 77 then j14 (0 : Int32) else j14 (1 : Int32))))) fun j9 => if v5 = 77 then j9 s6 else bnd2 (f_R_see κ a0 s6) (fun v7 s8 => if v7 = 86 then j9 s8 else some ((1 : Int32), s8)))
noncomputable def f_R_stripHere (κ : Ko) (a0 : Nat) (x1 : Int32) (st : AS) : Option (Int32 × AS) := grd (vp_in x1 6) (bnd2 (f_R_numberHere κ a0 (1 : Int32) (9999 : Int32) (ui st (a0 + 10) (x1 : Int32).toNatClampNeg 0)) (fun v2 s3 => if v2 = 0 then some ((0 : Int32), s3) else grd (vp_in ((21 : Int32) * x1) 126) (L_R_stripHere_33 κ (fun (v31 : Nat) (s33 : AS) => grd (((f_R_fails κ v31 (4 : Int32) (gi s33 v31 11) s33).1) = 0 ∨ ((f_R_fails κ v31 (4 : Int32) (gi s33 v31 11) s33).1) = 1) (some (((f_R_fails κ v31 (4 : Int32) (gi s33 v31 11) s33).1), ((f_R_fails κ v31 (4 : Int32) (gi s33 v31 11) s33).2)))) FU a0 x1 (ui s3 (a0 + 8) ((21 : Int32) * x1 : Int32).toNatClampNeg (gi s3 a0 13)))))
theorem l_R_stripHere_33 {κ : Ko} {F : Int32 → AS → Prop} {v : Int32} {s' : AS} (k : F v s') {k_62 : Nat → AS → Option (Int32 × AS)} (hk_62 : ∀ (a0 : Nat) (st : AS), ly κ a0 = (12, 36) → k_62 a0 st = some (v, s') → V κ M_R_stripHere (RI F) 62 [some (.ref a0), none] [] st) : ∀ (d : Nat) (a0 : Nat) (x1 : Int32) (st : AS), ly κ a0 = (12, 36) → L_R_stripHere_33 κ k_62 d a0 x1 st = some (v, s') → V κ M_R_stripHere (RI F) 33 [some (.ref a0), some (.int x1)] [] st := by
  intro d
  induction d with
  | zero =>
    intro a0 x1 st l_a0 h
    exact nn_some h
  | succ d ih =>
    intro a0 x1 st l_a0 h
    rw [L_R_stripHere_33] at h
    obtain ⟨v5, s6, h23, h⟩ := bnd2_some h
    refine b_R_stripHere_33 (l_a0 := l_a0) (k1 := t_R_see l_a0 h23 ?_)
    obtain ⟨j9, hdj9, h⟩ := jn_some h
    have hj9 : ∀ (s10 : AS), j9 s10 = some (v, s') → V κ M_R_stripHere (RI F) 51 [some (.ref a0), some (.int x1)] [] s10 := by
      intro s10 h
      rw [hdj9] at h
      obtain ⟨h11, h⟩ := grd_some h
      refine b_R_stripHere_51 (l_a0 := l_a0) (b1 := h11) (k2 := fun e24 => ?_) (k3 := fun e24 => ?_)
      · replace h := if_f e24 h
        obtain ⟨j14, hdj14, h⟩ := jn_some h
        have hj14 : ∀ (v15 : Int32), j14 v15 = some (v, s') → V κ M_R_stripHere (RI F) 106 [some (.ref a0), some (.int x1)] [.int v15, .int (((20 : Int32) * x1) + (gi s10 (a0 + 10) (x1 : Int32).toNatClampNeg)), .ref (a0 + 9)] s10 := by
          intro v15 h
          rw [hdj14] at h
          obtain ⟨h16, h⟩ := grd_some h
          obtain ⟨v17, s18, h25, h⟩ := bnd2_some h
          refine b_R_stripHere_106 (l_c0 := (co12 9 50 120 rfl l_a0)) (b1 := h16) (l_a0 := l_a0) (k2 := t_R_numberHere l_a0 h25 ?_)
          refine b_R_stripHere_125  (k1 := fun e26 => ?_) (k2 := fun e26 => ?_)
          · replace h := if_f e26 h
            obtain ⟨h19, h⟩ := grd_some h
            obtain ⟨h20, h⟩ := grd_some h
            obtain ⟨h21, h⟩ := grd_some h
            obtain ⟨h22, h⟩ := grd_some h
            refine b_R_stripHere_130 (l_a0 := l_a0) (b1 := h19) (b2 := h20) (b3 := h21) (b4 := h22) (k5 := ?_)
            exact ih _ _ _ l_a0 h
          · replace h := if_t e26 h
            exact b_R_stripHere_128  (k1 := lfI h k)
        clear hdj14
        obtain ⟨h12, h⟩ := grd_some h
        obtain ⟨h13, h⟩ := grd_some h
        refine b_R_stripHere_72 (l_a0 := l_a0) (b1 := h12) (b2 := h13) (k3 := fun e27 => ?_) (k4 := fun e27 => ?_)
        · replace h := if_f e27 h
          refine b_R_stripHere_105  (k1 := ?_)
          exact hj14 _  h
        · replace h := if_t e27 h
          refine b_R_stripHere_101  (k1 := ?_)
          exact hj14 _  h
      · replace h := if_t e24 h
        exact hk_62 _ _ l_a0 h
    clear hdj9
    refine b_R_stripHere_37  (k1 := fun e28 => ?_) (k2 := fun e28 => ?_)
    · replace h := if_t e28 h
      exact hj9 _  h
    · replace h := if_f e28 h
      obtain ⟨v7, s8, h29, h⟩ := bnd2_some h
      refine b_R_stripHere_42 (l_a0 := l_a0) (k1 := t_R_see l_a0 h29 ?_)
      refine b_R_stripHere_46  (k1 := fun e30 => ?_) (k2 := fun e30 => ?_)
      · replace h := if_f e30 h
        exact b_R_stripHere_163  (k1 := lfI h k)
      · replace h := if_t e30 h
        exact hj9 _  h
theorem t_R_stripHere {κ : Ko} {F : Int32 → AS → Prop} {a0 : Nat} {x1 : Int32} {st : AS} {v : Int32} {s' : AS} (l_a0 : ly κ a0 = (12, 36)) (h : f_R_stripHere κ a0 x1 st = some (v, s')) (k : F v s') : C κ M_R_stripHere [.ref a0, .int x1] st (RI F) := by
  unfold f_R_stripHere at h
  refine e_R_stripHere ?_
  obtain ⟨h1, h⟩ := grd_some h
  obtain ⟨v2, s3, h35, h⟩ := bnd2_some h
  refine b_R_stripHere_0 (l_a0 := l_a0) (b1 := h1) (k2 := t_R_numberHere l_a0 h35 ?_)
  refine b_R_stripHere_15  (k1 := fun e36 => ?_) (k2 := fun e36 => ?_)
  · replace h := if_f e36 h
    obtain ⟨h4, h⟩ := grd_some h
    refine b_R_stripHere_20 (l_a0 := l_a0) (b1 := h4) (k2 := ?_)
    refine l_R_stripHere_33 k ?_ FU _ _ _ l_a0 h
    · intro v31 s33 l32 h
      refine b_R_stripHere_62 (l_a0 := l32) (k1 := t_R_fails l32 rfl ?_)
      obtain ⟨h34, h⟩ := grd_some h
      exact b_R_stripHere_71 (nz2 := h34) (k1 := lfI h k)
  · replace h := if_t e36 h
    exact b_R_stripHere_18  (k1 := lfI h k)
noncomputable def f_R_isLetter (κ : Ko) (a0 : Nat) (x1 : Int32) (st : AS) : Option Int32 := jn (some (0 : Int32)) fun j3 => if (gi st a0 1) ≤ x1 then j3 else grd (vp_in x1 400) (if (gi st (a0 + 1) (x1 : Int32).toNatClampNeg) < 97 then j3 else grd (vp_in x1 400) (if 122 < (gi st (a0 + 1) (x1 : Int32).toNatClampNeg) then j3 else some (1 : Int32)))
theorem t_R_isLetter {κ : Ko} {F : Int32 → AS → Prop} {a0 : Nat} {x1 : Int32} {st : AS} {v : Int32} (l_a0 : ly κ a0 = (12, 36)) (h : f_R_isLetter κ a0 x1 st = some v) (k : F v st) : C κ M_R_isLetter [.ref a0, .int x1] st (RI F) := by
  unfold f_R_isLetter at h
  refine e_R_isLetter ?_
  obtain ⟨j3, hdj3, h⟩ := jn_some h
  have hj3 : j3 = some v → V κ M_R_isLetter (RI F) 34 [none, none] [] st := by
    intro h
    rw [hdj3] at h
    exact b_R_isLetter_34  (k1 := lfIP h k)
  clear hdj3
  refine b_R_isLetter_0 (l_a0 := l_a0) (k1 := fun e4 => ?_) (k2 := fun e4 => ?_)
  · replace h := if_t e4 h
    exact hj3  h
  · replace h := if_f e4 h
    obtain ⟨h1, h⟩ := grd_some h
    refine b_R_isLetter_8 (l_a0 := l_a0) (b1 := h1) (k2 := fun e5 => ?_) (k3 := fun e5 => ?_)
    · replace h := if_t e5 h
      exact hj3  h
    · replace h := if_f e5 h
      obtain ⟨h2, h⟩ := grd_some h
      refine b_R_isLetter_19 (l_a0 := l_a0) (b1 := h2) (k2 := fun e6 => ?_) (k3 := fun e6 => ?_)
      · replace h := if_t e6 h
        exact hj3  h
      · replace h := if_f e6 h
        exact b_R_isLetter_30  (k1 := lfIP h k)
noncomputable def L_R_isWord_10 (κ : Ko) (k_56 : Int64 → Int64 → Int32 → AS → Option (Int32 × AS)) : Nat → Nat → Int64 → Int64 → Int32 → AS → Option (Int32 × AS)
  | 0, _, _, _, _, _ => none
  | d + 1, a0, y1, y3, x5, st => bnd (f_R_isLetter κ a0 ((gi st a0 11) + x5) st) (fun v3 => if v3 = 0 then k_56 y1 y3 x5 st else if 8 ≤ x5 then L_R_isWord_10 κ k_56 d a0 y1 y3 (x5 + 1) st else grd (vp_in ((gi st a0 11) + x5) 400) (L_R_isWord_10 κ k_56 d a0 y1 ((y3 <<< ((8 : Int32).toInt64 &&& 63)) ||| ((gi st (a0 + 1) ((gi st a0 11) + x5 : Int32).toNatClampNeg : Int32).toInt64)) (x5 + 1) st))
noncomputable def f_R_isWord (κ : Ko) (a0 : Nat) (y1 : Int64) (st : AS) : Option (Int32 × AS) := bnd2 (f_R_see κ a0 st) (fun v1 s2 => L_R_isWord_10 κ (fun (v8 : Int64) (v9 : Int64) (v10 : Int32) (s11 : AS) => jn (some ((0 : Int32), s11)) fun j12 => if v10 ≤ 0 then j12 else if 8 ≤ v10 then j12 else if v9 = v8 then some ((1 : Int32), s11) else j12) FU a0 y1 (0 : Int64) (0 : Int32) s2)
theorem l_R_isWord_10 {κ : Ko} {F : Int32 → AS → Prop} {v : Int32} {s' : AS} (k : F v s') {k_56 : Int64 → Int64 → Int32 → AS → Option (Int32 × AS)} (hk_56 : ∀ (y1 : Int64) (y3 : Int64) (x5 : Int32) (st : AS), k_56 y1 y3 x5 st = some (v, s') → V κ M_R_isWord (RI F) 56 [none, some (.long y1), none, some (.long y3), none, some (.int x5)] [] st) : ∀ (d : Nat) (a0 : Nat) (y1 : Int64) (y3 : Int64) (x5 : Int32) (st : AS), ly κ a0 = (12, 36) → L_R_isWord_10 κ k_56 d a0 y1 y3 x5 st = some (v, s') → V κ M_R_isWord (RI F) 10 [some (.ref a0), some (.long y1), none, some (.long y3), none, some (.int x5)] [] st := by
  intro d
  induction d with
  | zero =>
    intro a0 y1 y3 x5 st l_a0 h
    exact nn_some h
  | succ d ih =>
    intro a0 y1 y3 x5 st l_a0 h
    rw [L_R_isWord_10] at h
    obtain ⟨v3, h5, h⟩ := bnd_some h
    refine b_R_isWord_10 (l_a0 := l_a0) (k1 := t_R_isLetter l_a0 h5 ?_)
    refine b_R_isWord_21  (k1 := fun e6 => ?_) (k2 := fun e6 => ?_)
    · replace h := if_t e6 h
      exact hk_56 _ _ _ _  h
    · replace h := if_f e6 h
      refine b_R_isWord_24  (k1 := fun e7 => ?_) (k2 := fun e7 => ?_)
      · replace h := if_t e7 h
        refine b_R_isWord_50  (k1 := ?_)
        exact ih _ _ _ _ _ l_a0 h
      · replace h := if_f e7 h
        obtain ⟨h4, h⟩ := grd_some h
        refine b_R_isWord_31 (l_a0 := l_a0) (b1 := h4) (k2 := ?_)
        exact ih _ _ _ _ _ l_a0 h
theorem t_R_isWord {κ : Ko} {F : Int32 → AS → Prop} {a0 : Nat} {y1 : Int64} {st : AS} {v : Int32} {s' : AS} (l_a0 : ly κ a0 = (12, 36)) (h : f_R_isWord κ a0 y1 st = some (v, s')) (k : F v s') : C κ M_R_isWord [.ref a0, .long y1] st (RI F) := by
  unfold f_R_isWord at h
  refine e_R_isWord ?_
  obtain ⟨v1, s2, h13, h⟩ := bnd2_some h
  refine b_R_isWord_0 (l_a0 := l_a0) (k1 := t_R_see l_a0 h13 ?_)
  refine b_R_isWord_4  (k1 := ?_)
  refine l_R_isWord_10 k ?_ FU _ _ _ _ _ l_a0 h
  · intro v8 v9 v10 s11 h
    obtain ⟨j12, hdj12, h⟩ := jn_some h
    have hj12 : j12 = some (v, s') → V κ M_R_isWord (RI F) 78 [none, none, none, none, none, none] [] s11 := by
      intro h
      rw [hdj12] at h
      exact b_R_isWord_78  (k1 := lfI h k)
    clear hdj12
    refine b_R_isWord_56  (k1 := fun e14 => ?_) (k2 := fun e14 => ?_)
    · replace h := if_t e14 h
      exact hj12  h
    · replace h := if_f e14 h
      refine b_R_isWord_61  (k1 := fun e15 => ?_) (k2 := fun e15 => ?_)
      · replace h := if_t e15 h
        exact hj12  h
      · replace h := if_f e15 h
        refine b_R_isWord_68  (k1 := fun e16 => ?_) (k2 := fun e16 => ?_)
        · replace h := if_f e16 h
          exact hj12  h
        · replace h := if_t e16 h
          exact b_R_isWord_74  (k1 := lfI h k)
noncomputable def L_R_passWord_0 (κ : Ko) : Nat → Nat → AS → Option AS
  | 0, _, _ => none
  | d + 1, a0, st => bnd (f_R_isLetter κ a0 (gi st a0 11) st) (fun v1 => if v1 = 0 then some st else L_R_passWord_0 κ  d a0 (ui st a0 11 ((gi st a0 11) + 1)))
noncomputable def f_R_passWord (κ : Ko) (a0 : Nat) (st : AS) : Option AS := L_R_passWord_0 κ  FU a0 st
theorem l_R_passWord_0 {κ : Ko} {F : AS → Prop} {s' : AS} (k : F s') : ∀ (d : Nat) (a0 : Nat) (st : AS), ly κ a0 = (12, 36) → L_R_passWord_0 κ  d a0 st = some s' → V κ M_R_passWord (RV F) 0 [some (.ref a0)] [] st := by
  intro d
  induction d with
  | zero =>
    intro a0 st l_a0 h
    exact nn_some h
  | succ d ih =>
    intro a0 st l_a0 h
    rw [L_R_passWord_0] at h
    obtain ⟨v1, h2, h⟩ := bnd_some h
    refine b_R_passWord_0 (l_a0 := l_a0) (k1 := t_R_isLetter l_a0 h2 ?_)
    refine b_R_passWord_8  (k1 := fun e3 => ?_) (k2 := fun e3 => ?_)
    · replace h := if_t e3 h
      exact b_R_passWord_24  (k1 := lfV h k)
    · replace h := if_f e3 h
      refine b_R_passWord_11 (l_a0 := l_a0) (k1 := ?_)
      exact ih _ _ l_a0 h
theorem t_R_passWord {κ : Ko} {F : AS → Prop} {a0 : Nat} {st : AS} {s' : AS} (l_a0 : ly κ a0 = (12, 36)) (h : f_R_passWord κ a0 st = some s') (k : F s') : C κ M_R_passWord [.ref a0] st (RV F) := by
  unfold f_R_passWord at h
  refine e_R_passWord ?_
  refine l_R_passWord_0 k FU _ _ l_a0 h
noncomputable def f_R_softened (κ : Ko) (a0 : Nat) (x1 : Int32) (st : AS) : Option (Int32 × AS) := grd (vp_in (gi st a0 14) 6) (if (gi st (a0 + 7) (gi st a0 14 : Int32).toNatClampNeg) < 0 then bnd (f_R_passWord κ a0 st) (fun s2 => bnd2 (f_R_numberHere κ a0 (1 : Int32) (99 : Int32) s2) (fun v3 s4 => if v3 = 0 then some ((0 : Int32), s4) else grd (vp_in (gi s4 a0 14) 6) (some ((1 : Int32), ui s4 (a0 + 7) (gi s4 a0 14 : Int32).toNatClampNeg (gi s4 a0 13))))) else grd (((f_R_fails κ a0 (4 : Int32) x1 st).1) = 0 ∨ ((f_R_fails κ a0 (4 : Int32) x1 st).1) = 1) (some (((f_R_fails κ a0 (4 : Int32) x1 st).1), ((f_R_fails κ a0 (4 : Int32) x1 st).2))))
theorem t_R_softened {κ : Ko} {F : Int32 → AS → Prop} {a0 : Nat} {x1 : Int32} {st : AS} {v : Int32} {s' : AS} (l_a0 : ly κ a0 = (12, 36)) (h : f_R_softened κ a0 x1 st = some (v, s')) (k : F v s') : C κ M_R_softened [.ref a0, .int x1] st (RI F) := by
  unfold f_R_softened at h
  refine e_R_softened ?_
  obtain ⟨h1, h⟩ := grd_some h
  refine b_R_softened_0 (l_a0 := l_a0) (b1 := h1) (k2 := fun e7 => ?_) (k3 := fun e7 => ?_)
  · replace h := if_t e7 h
    obtain ⟨s2, h8, h⟩ := bnd_some h
    refine b_R_softened_19 (l_a0 := l_a0) (k1 := t_R_passWord l_a0 h8 ?_)
    obtain ⟨v3, s4, h9, h⟩ := bnd2_some h
    refine b_R_softened_23 (l_a0 := l_a0) (k1 := t_R_numberHere l_a0 h9 ?_)
    refine b_R_softened_30  (k1 := fun e10 => ?_) (k2 := fun e10 => ?_)
    · replace h := if_f e10 h
      obtain ⟨h5, h⟩ := grd_some h
      exact b_R_softened_35 (l_a0 := l_a0) (b1 := h5) (k2 := lfI h k)
    · replace h := if_t e10 h
      exact b_R_softened_33  (k1 := lfI h k)
  · replace h := if_f e7 h
    refine b_R_softened_12 (l_a0 := l_a0) (k1 := t_R_fails l_a0 rfl ?_)
    obtain ⟨h6, h⟩ := grd_some h
    exact b_R_softened_18 (nz2 := h6) (k1 := lfI h k)
noncomputable def f_R_makes (κ : Ko) (a0 : Nat) (x1 : Int32) (st : AS) : Option (Int32 × AS) := if (gi st a0 15) = 60 then grd (((f_R_fails κ a0 (3 : Int32) x1 st).1) = 0 ∨ ((f_R_fails κ a0 (3 : Int32) x1 st).1) = 1) (some (((f_R_fails κ a0 (3 : Int32) x1 st).1), ((f_R_fails κ a0 (3 : Int32) x1 st).2))) else some ((1 : Int32), ui st a0 15 ((gi st a0 15) + 1))
theorem t_R_makes {κ : Ko} {F : Int32 → AS → Prop} {a0 : Nat} {x1 : Int32} {st : AS} {v : Int32} {s' : AS} (l_a0 : ly κ a0 = (12, 36)) (h : f_R_makes κ a0 x1 st = some (v, s')) (k : F v s') : C κ M_R_makes [.ref a0, .int x1] st (RI F) := by
  unfold f_R_makes at h
  refine e_R_makes ?_
  refine b_R_makes_0 (l_a0 := l_a0) (k1 := fun e2 => ?_) (k2 := fun e2 => ?_)
  · replace h := if_f e2 h
    exact b_R_makes_16 (l_a0 := l_a0) (k1 := lfI h k)
  · replace h := if_t e2 h
    refine b_R_makes_9 (l_a0 := l_a0) (k1 := t_R_fails l_a0 rfl ?_)
    obtain ⟨h1, h⟩ := grd_some h
    exact b_R_makes_15 (nz2 := h1) (k1 := lfI h k)
noncomputable def f_R_puts (κ : Ko) (a0 : Nat) (x1 : Int32) (x2 : Int32) (st : AS) : Option AS := grd (vp_in (gi st a0 14) 18) (grd (vp_in (((400 : Int32) * (gi st a0 14)) + (gi st (a0 + 4) (gi st a0 14 : Int32).toNatClampNeg)) 7200) (grd (vp_in (gi (ui st (a0 + 3) (((400 : Int32) * (gi st a0 14)) + (gi st (a0 + 4) (gi st a0 14 : Int32).toNatClampNeg) : Int32).toNatClampNeg (x1 + ((16 : Int32) * x2))) a0 14) 18) (grd (vp_in (gi (ui st (a0 + 3) (((400 : Int32) * (gi st a0 14)) + (gi st (a0 + 4) (gi st a0 14 : Int32).toNatClampNeg) : Int32).toNatClampNeg (x1 + ((16 : Int32) * x2))) a0 14) 18) (some (ui (ui st (a0 + 3) (((400 : Int32) * (gi st a0 14)) + (gi st (a0 + 4) (gi st a0 14 : Int32).toNatClampNeg) : Int32).toNatClampNeg (x1 + ((16 : Int32) * x2))) (a0 + 4) (gi (ui st (a0 + 3) (((400 : Int32) * (gi st a0 14)) + (gi st (a0 + 4) (gi st a0 14 : Int32).toNatClampNeg) : Int32).toNatClampNeg (x1 + ((16 : Int32) * x2))) a0 14 : Int32).toNatClampNeg ((gi (ui st (a0 + 3) (((400 : Int32) * (gi st a0 14)) + (gi st (a0 + 4) (gi st a0 14 : Int32).toNatClampNeg) : Int32).toNatClampNeg (x1 + ((16 : Int32) * x2))) (a0 + 4) (gi (ui st (a0 + 3) (((400 : Int32) * (gi st a0 14)) + (gi st (a0 + 4) (gi st a0 14 : Int32).toNatClampNeg) : Int32).toNatClampNeg (x1 + ((16 : Int32) * x2))) a0 14 : Int32).toNatClampNeg) + 1))))))
theorem t_R_puts {κ : Ko} {F : AS → Prop} {a0 : Nat} {x1 : Int32} {x2 : Int32} {st : AS} {s' : AS} (l_a0 : ly κ a0 = (12, 36)) (h : f_R_puts κ a0 x1 x2 st = some s') (k : F s') : C κ M_R_puts [.ref a0, .int x1, .int x2] st (RV F) := by
  unfold f_R_puts at h
  refine e_R_puts ?_
  obtain ⟨h1, h⟩ := grd_some h
  obtain ⟨h2, h⟩ := grd_some h
  obtain ⟨h3, h⟩ := grd_some h
  obtain ⟨h4, h⟩ := grd_some h
  exact b_R_puts_0 (l_a0 := l_a0) (b1 := h1) (b2 := h2) (b3 := h3) (b4 := h4) (k5 := lfV h k)
noncomputable def f_R_wordHere (κ : Ko) (a0 : Nat) (st : AS) : Option (Int32 × AS) := bnd2 (f_R_isWord κ a0 (if (if 6 ≤ (gi st a0 14) then (0 : Int32) else (1 : Int32) : Int32) = 0 then (119182899770472 : Int64) else (1819242087 : Int64) : Int64) st) (fun v1 s2 => if v1 = 0 then bnd2 (f_R_isWord κ a0 (if (if 6 ≤ (gi st a0 14) then (0 : Int32) else (1 : Int32) : Int32) = 0 then (491496238692 : Int64) else (495673373300 : Int64) : Int64) s2) (fun v3 s4 => if v3 = 0 then bnd2 (f_R_isWord κ a0 (if (if 6 ≤ (gi st a0 14) then (0 : Int32) else (1 : Int32) : Int32) = 0 then (1970496868 : Int64) else (1634887009 : Int64) : Int64) s4) (fun v5 s6 => if v5 = 0 then bnd2 (f_R_isWord κ a0 (if (if 6 ≤ (gi st a0 14) then (0 : Int32) else (1 : Int32) : Int32) = 0 then (1802071652 : Int64) else (491496238692 : Int64) : Int64) s6) (fun v7 s8 => if v7 = 0 then bnd2 (f_R_isWord κ a0 (if (if 6 ≤ (gi st a0 14) then (0 : Int32) else (1 : Int32) : Int32) = 0 then (7823737 : Int64) else (499984590964 : Int64) : Int64) s8) (fun v9 s10 => if v9 = 0 then bnd2 (f_R_isWord κ a0 (if (if 6 ≤ (gi st a0 14) then (0 : Int32) else (1 : Int32) : Int32) = 0 then (482854658917 : Int64) else (1701078885 : Int64) : Int64) s10) (fun v11 s12 => if v11 = 0 then bnd2 (f_R_isWord κ a0 (if (if 6 ≤ (gi st a0 14) then (0 : Int32) else (1 : Int32) : Int32) = 0 then (1701733491 : Int64) else (7823737 : Int64) : Int64) s12) (fun v13 s14 => if v13 = 0 then bnd2 (f_R_isWord κ a0 (if (if 6 ≤ (gi st a0 14) then (0 : Int32) else (1 : Int32) : Int32) = 0 then (7237495 : Int64) else (500086104428 : Int64) : Int64) s14) (fun v15 s16 => some ((if v15 = 0 then ((-1) : Int32) else (7 : Int32) : Int32), s16)) else some ((6 : Int32), s14)) else some ((5 : Int32), s12)) else some ((4 : Int32), s10)) else some ((3 : Int32), s8)) else some ((2 : Int32), s6)) else some ((1 : Int32), s4)) else some ((0 : Int32), s2))
theorem t_R_wordHere {κ : Ko} {F : Int32 → AS → Prop} {a0 : Nat} {st : AS} {v : Int32} {s' : AS} (l_a0 : ly κ a0 = (12, 36)) (h : f_R_wordHere κ a0 st = some (v, s')) (k : F v s') : C κ M_R_wordHere [.ref a0] st (RI F) := by
  unfold f_R_wordHere at h
  refine e_R_wordHere ?_
  have K18 : V κ M_R_wordHere (RI F) 14 [some (.ref a0), none] [.int (if 6 ≤ (gi st a0 14) then (0 : Int32) else (1 : Int32) : Int32)] st := by
    have K20 : V κ M_R_wordHere (RI F) 29 [some (.ref a0), some (.int (if 6 ≤ (gi st a0 14) then (0 : Int32) else (1 : Int32) : Int32))] [.long (if (if 6 ≤ (gi st a0 14) then (0 : Int32) else (1 : Int32) : Int32) = 0 then (119182899770472 : Int64) else (1819242087 : Int64) : Int64), .ref a0] st := by
      obtain ⟨v1, s2, h21, h⟩ := bnd2_some h
      refine b_R_wordHere_29 (l_c0 := l_a0) (k1 := t_R_isWord l_a0 h21 ?_)
      refine b_R_wordHere_32  (k1 := fun e22 => ?_) (k2 := fun e22 => ?_)
      · replace h := if_t e22 h
        have K24 : V κ M_R_wordHere (RI F) 51 [some (.ref a0), some (.int (if 6 ≤ (gi st a0 14) then (0 : Int32) else (1 : Int32) : Int32))] [.long (if (if 6 ≤ (gi st a0 14) then (0 : Int32) else (1 : Int32) : Int32) = 0 then (491496238692 : Int64) else (495673373300 : Int64) : Int64), .ref a0] s2 := by
          obtain ⟨v3, s4, h25, h⟩ := bnd2_some h
          refine b_R_wordHere_51 (l_c0 := l_a0) (k1 := t_R_isWord l_a0 h25 ?_)
          refine b_R_wordHere_54  (k1 := fun e26 => ?_) (k2 := fun e26 => ?_)
          · replace h := if_t e26 h
            have K28 : V κ M_R_wordHere (RI F) 73 [some (.ref a0), some (.int (if 6 ≤ (gi st a0 14) then (0 : Int32) else (1 : Int32) : Int32))] [.long (if (if 6 ≤ (gi st a0 14) then (0 : Int32) else (1 : Int32) : Int32) = 0 then (1970496868 : Int64) else (1634887009 : Int64) : Int64), .ref a0] s4 := by
              obtain ⟨v5, s6, h29, h⟩ := bnd2_some h
              refine b_R_wordHere_73 (l_c0 := l_a0) (k1 := t_R_isWord l_a0 h29 ?_)
              refine b_R_wordHere_76  (k1 := fun e30 => ?_) (k2 := fun e30 => ?_)
              · replace h := if_t e30 h
                have K32 : V κ M_R_wordHere (RI F) 95 [some (.ref a0), some (.int (if 6 ≤ (gi st a0 14) then (0 : Int32) else (1 : Int32) : Int32))] [.long (if (if 6 ≤ (gi st a0 14) then (0 : Int32) else (1 : Int32) : Int32) = 0 then (1802071652 : Int64) else (491496238692 : Int64) : Int64), .ref a0] s6 := by
                  obtain ⟨v7, s8, h33, h⟩ := bnd2_some h
                  refine b_R_wordHere_95 (l_c0 := l_a0) (k1 := t_R_isWord l_a0 h33 ?_)
                  refine b_R_wordHere_98  (k1 := fun e34 => ?_) (k2 := fun e34 => ?_)
                  · replace h := if_t e34 h
                    have K36 : V κ M_R_wordHere (RI F) 117 [some (.ref a0), some (.int (if 6 ≤ (gi st a0 14) then (0 : Int32) else (1 : Int32) : Int32))] [.long (if (if 6 ≤ (gi st a0 14) then (0 : Int32) else (1 : Int32) : Int32) = 0 then (7823737 : Int64) else (499984590964 : Int64) : Int64), .ref a0] s8 := by
                      obtain ⟨v9, s10, h37, h⟩ := bnd2_some h
                      refine b_R_wordHere_117 (l_c0 := l_a0) (k1 := t_R_isWord l_a0 h37 ?_)
                      refine b_R_wordHere_120  (k1 := fun e38 => ?_) (k2 := fun e38 => ?_)
                      · replace h := if_t e38 h
                        have K40 : V κ M_R_wordHere (RI F) 139 [some (.ref a0), some (.int (if 6 ≤ (gi st a0 14) then (0 : Int32) else (1 : Int32) : Int32))] [.long (if (if 6 ≤ (gi st a0 14) then (0 : Int32) else (1 : Int32) : Int32) = 0 then (482854658917 : Int64) else (1701078885 : Int64) : Int64), .ref a0] s10 := by
                          obtain ⟨v11, s12, h41, h⟩ := bnd2_some h
                          refine b_R_wordHere_139 (l_c0 := l_a0) (k1 := t_R_isWord l_a0 h41 ?_)
                          refine b_R_wordHere_142  (k1 := fun e42 => ?_) (k2 := fun e42 => ?_)
                          · replace h := if_t e42 h
                            have K44 : V κ M_R_wordHere (RI F) 161 [some (.ref a0), some (.int (if 6 ≤ (gi st a0 14) then (0 : Int32) else (1 : Int32) : Int32))] [.long (if (if 6 ≤ (gi st a0 14) then (0 : Int32) else (1 : Int32) : Int32) = 0 then (1701733491 : Int64) else (7823737 : Int64) : Int64), .ref a0] s12 := by
                              obtain ⟨v13, s14, h45, h⟩ := bnd2_some h
                              refine b_R_wordHere_161 (l_c0 := l_a0) (k1 := t_R_isWord l_a0 h45 ?_)
                              refine b_R_wordHere_164  (k1 := fun e46 => ?_) (k2 := fun e46 => ?_)
                              · replace h := if_t e46 h
                                have K48 : V κ M_R_wordHere (RI F) 184 [none, none] [.long (if (if 6 ≤ (gi st a0 14) then (0 : Int32) else (1 : Int32) : Int32) = 0 then (7237495 : Int64) else (500086104428 : Int64) : Int64), .ref a0] s14 := by
                                  obtain ⟨v15, s16, h49, h⟩ := bnd2_some h
                                  refine b_R_wordHere_184 (l_c0 := l_a0) (k1 := t_R_isWord l_a0 h49 ?_)
                                  have K51 : (RI F) (some (.int (if v15 = 0 then ((-1) : Int32) else (7 : Int32) : Int32))) s16 := lfI h k
                                  refine b_R_wordHere_187  (k1 := fun e52 => ?_) (k2 := fun e52 => ?_)
                                  · exact b_R_wordHere_195  (k1 := (ite_t (P := fun z => (RI F) (some (.int z)) s16) e52 K51))
                                  · exact b_R_wordHere_190  (k1 := (ite_f (P := fun z => (RI F) (some (.int z)) s16) e52 K51))
                                refine b_R_wordHere_170  (k1 := fun e53 => ?_) (k2 := fun e53 => ?_)
                                · refine b_R_wordHere_181  (k1 := ?_)
                                  exact (ite_t (P := fun z => V κ M_R_wordHere (RI F) 184 [none, none] [.long z, .ref a0] s14) e53 K48)
                                · refine b_R_wordHere_175  (k1 := ?_)
                                  exact (ite_f (P := fun z => V κ M_R_wordHere (RI F) 184 [none, none] [.long z, .ref a0] s14) e53 K48)
                              · replace h := if_f e46 h
                                exact b_R_wordHere_167  (k1 := lfI h k)
                            refine b_R_wordHere_147  (k1 := fun e54 => ?_) (k2 := fun e54 => ?_)
                            · refine b_R_wordHere_158  (k1 := ?_)
                              exact (ite_t (P := fun z => V κ M_R_wordHere (RI F) 161 [some (.ref a0), some (.int (if 6 ≤ (gi st a0 14) then (0 : Int32) else (1 : Int32) : Int32))] [.long z, .ref a0] s12) e54 K44)
                            · refine b_R_wordHere_152  (k1 := ?_)
                              exact (ite_f (P := fun z => V κ M_R_wordHere (RI F) 161 [some (.ref a0), some (.int (if 6 ≤ (gi st a0 14) then (0 : Int32) else (1 : Int32) : Int32))] [.long z, .ref a0] s12) e54 K44)
                          · replace h := if_f e42 h
                            exact b_R_wordHere_145  (k1 := lfI h k)
                        refine b_R_wordHere_125  (k1 := fun e55 => ?_) (k2 := fun e55 => ?_)
                        · refine b_R_wordHere_136  (k1 := ?_)
                          exact (ite_t (P := fun z => V κ M_R_wordHere (RI F) 139 [some (.ref a0), some (.int (if 6 ≤ (gi st a0 14) then (0 : Int32) else (1 : Int32) : Int32))] [.long z, .ref a0] s10) e55 K40)
                        · refine b_R_wordHere_130  (k1 := ?_)
                          exact (ite_f (P := fun z => V κ M_R_wordHere (RI F) 139 [some (.ref a0), some (.int (if 6 ≤ (gi st a0 14) then (0 : Int32) else (1 : Int32) : Int32))] [.long z, .ref a0] s10) e55 K40)
                      · replace h := if_f e38 h
                        exact b_R_wordHere_123  (k1 := lfI h k)
                    refine b_R_wordHere_103  (k1 := fun e56 => ?_) (k2 := fun e56 => ?_)
                    · refine b_R_wordHere_114  (k1 := ?_)
                      exact (ite_t (P := fun z => V κ M_R_wordHere (RI F) 117 [some (.ref a0), some (.int (if 6 ≤ (gi st a0 14) then (0 : Int32) else (1 : Int32) : Int32))] [.long z, .ref a0] s8) e56 K36)
                    · refine b_R_wordHere_108  (k1 := ?_)
                      exact (ite_f (P := fun z => V κ M_R_wordHere (RI F) 117 [some (.ref a0), some (.int (if 6 ≤ (gi st a0 14) then (0 : Int32) else (1 : Int32) : Int32))] [.long z, .ref a0] s8) e56 K36)
                  · replace h := if_f e34 h
                    exact b_R_wordHere_101  (k1 := lfI h k)
                refine b_R_wordHere_81  (k1 := fun e57 => ?_) (k2 := fun e57 => ?_)
                · refine b_R_wordHere_92  (k1 := ?_)
                  exact (ite_t (P := fun z => V κ M_R_wordHere (RI F) 95 [some (.ref a0), some (.int (if 6 ≤ (gi st a0 14) then (0 : Int32) else (1 : Int32) : Int32))] [.long z, .ref a0] s6) e57 K32)
                · refine b_R_wordHere_86  (k1 := ?_)
                  exact (ite_f (P := fun z => V κ M_R_wordHere (RI F) 95 [some (.ref a0), some (.int (if 6 ≤ (gi st a0 14) then (0 : Int32) else (1 : Int32) : Int32))] [.long z, .ref a0] s6) e57 K32)
              · replace h := if_f e30 h
                exact b_R_wordHere_79  (k1 := lfI h k)
            refine b_R_wordHere_59  (k1 := fun e58 => ?_) (k2 := fun e58 => ?_)
            · refine b_R_wordHere_70  (k1 := ?_)
              exact (ite_t (P := fun z => V κ M_R_wordHere (RI F) 73 [some (.ref a0), some (.int (if 6 ≤ (gi st a0 14) then (0 : Int32) else (1 : Int32) : Int32))] [.long z, .ref a0] s4) e58 K28)
            · refine b_R_wordHere_64  (k1 := ?_)
              exact (ite_f (P := fun z => V κ M_R_wordHere (RI F) 73 [some (.ref a0), some (.int (if 6 ≤ (gi st a0 14) then (0 : Int32) else (1 : Int32) : Int32))] [.long z, .ref a0] s4) e58 K28)
          · replace h := if_f e26 h
            exact b_R_wordHere_57  (k1 := lfI h k)
        refine b_R_wordHere_37  (k1 := fun e59 => ?_) (k2 := fun e59 => ?_)
        · refine b_R_wordHere_48  (k1 := ?_)
          exact (ite_t (P := fun z => V κ M_R_wordHere (RI F) 51 [some (.ref a0), some (.int (if 6 ≤ (gi st a0 14) then (0 : Int32) else (1 : Int32) : Int32))] [.long z, .ref a0] s2) e59 K24)
        · refine b_R_wordHere_42  (k1 := ?_)
          exact (ite_f (P := fun z => V κ M_R_wordHere (RI F) 51 [some (.ref a0), some (.int (if 6 ≤ (gi st a0 14) then (0 : Int32) else (1 : Int32) : Int32))] [.long z, .ref a0] s2) e59 K24)
      · replace h := if_f e22 h
        exact b_R_wordHere_35  (k1 := lfI h k)
    refine b_R_wordHere_14  (k1 := fun e60 => ?_) (k2 := fun e60 => ?_)
    · refine b_R_wordHere_26  (k1 := ?_)
      exact (ite_t (P := fun z => V κ M_R_wordHere (RI F) 29 [some (.ref a0), some (.int (if 6 ≤ (gi st a0 14) then (0 : Int32) else (1 : Int32) : Int32))] [.long z, .ref a0] st) e60 K20)
    · refine b_R_wordHere_20  (k1 := ?_)
      exact (ite_f (P := fun z => V κ M_R_wordHere (RI F) 29 [some (.ref a0), some (.int (if 6 ≤ (gi st a0 14) then (0 : Int32) else (1 : Int32) : Int32))] [.long z, .ref a0] st) e60 K20)
  refine b_R_wordHere_0 (l_a0 := l_a0) (k1 := fun e61 => ?_) (k2 := fun e61 => ?_)
  · refine b_R_wordHere_13  (k1 := ?_)
    exact (ite_t (P := fun z => V κ M_R_wordHere (RI F) 14 [some (.ref a0), none] [.int z] st) e61 K18)
  · refine b_R_wordHere_9  (k1 := ?_)
    exact (ite_f (P := fun z => V κ M_R_wordHere (RI F) 14 [some (.ref a0), none] [.int z] st) e61 K18)
noncomputable def f_R_value (κ : Ko) (a0 : Nat) (st : AS) : Option (Int32 × AS) := bnd2 (f_R_see κ a0 st) (fun v1 s2 => bnd (f_R_isDigit κ a0 (gi s2 a0 11) s2) (fun v3 => if v3 = 0 then bnd2 (f_R_wordHere κ a0 s2) (fun v4 s5 => if 0 ≤ v4 then bnd2 (f_R_makes κ a0 (gi s2 a0 11) s5) (fun v6 s7 => if v6 = 0 then some ((0 : Int32), s7) else bnd (f_R_passWord κ a0 s7) (fun s8 => bnd (f_R_puts κ a0 (1 : Int32) v4 s8) (fun s9 => some ((1 : Int32), s9)))) else grd (((f_R_fails κ a0 (0 : Int32) (gi s2 a0 11) s5).1) = 0 ∨ ((f_R_fails κ a0 (0 : Int32) (gi s2 a0 11) s5).1) = 1) (some (((f_R_fails κ a0 (0 : Int32) (gi s2 a0 11) s5).1), ((f_R_fails κ a0 (0 : Int32) (gi s2 a0 11) s5).2)))) else bnd2 (f_R_numberHere κ a0 (0 : Int32) (99999 : Int32) s2) (fun v11 s12 => jn (fun (s17 : AS) => some ((0 : Int32), s17)) fun j16 => if v11 = 0 then j16 s12 else bnd2 (f_R_makes κ a0 (gi s2 a0 11) s12) (fun v13 s14 => if v13 = 0 then j16 s14 else bnd (f_R_puts κ a0 (0 : Int32) (gi s14 a0 13) s14) (fun s15 => some ((1 : Int32), s15))))))
theorem t_R_value {κ : Ko} {F : Int32 → AS → Prop} {a0 : Nat} {st : AS} {v : Int32} {s' : AS} (l_a0 : ly κ a0 = (12, 36)) (h : f_R_value κ a0 st = some (v, s')) (k : F v s') : C κ M_R_value [.ref a0] st (RI F) := by
  unfold f_R_value at h
  refine e_R_value ?_
  obtain ⟨v1, s2, h18, h⟩ := bnd2_some h
  refine b_R_value_0 (l_a0 := l_a0) (k1 := t_R_see l_a0 h18 ?_)
  obtain ⟨v3, h19, h⟩ := bnd_some h
  refine b_R_value_4 (l_a0 := l_a0) (k1 := t_R_isDigit l_a0 h19 ?_)
  refine b_R_value_18  (k1 := fun e20 => ?_) (k2 := fun e20 => ?_)
  · replace h := if_t e20 h
    obtain ⟨v4, s5, h21, h⟩ := bnd2_some h
    refine b_R_value_52 (l_a0 := l_a0) (k1 := t_R_wordHere l_a0 h21 ?_)
    refine b_R_value_56  (k1 := fun e22 => ?_) (k2 := fun e22 => ?_)
    · replace h := if_t e22 h
      obtain ⟨v6, s7, h23, h⟩ := bnd2_some h
      refine b_R_value_68 (l_a0 := l_a0) (k1 := t_R_makes l_a0 h23 ?_)
      refine b_R_value_73  (k1 := fun e24 => ?_) (k2 := fun e24 => ?_)
      · replace h := if_f e24 h
        obtain ⟨s8, h25, h⟩ := bnd_some h
        refine b_R_value_78 (l_a0 := l_a0) (k1 := t_R_passWord l_a0 h25 ?_)
        obtain ⟨s9, h26, h⟩ := bnd_some h
        refine b_R_value_82 (l_a0 := l_a0) (k1 := t_R_puts l_a0 h26 ?_)
        exact b_R_value_88  (k1 := lfI h k)
      · replace h := if_t e24 h
        exact b_R_value_76  (k1 := lfI h k)
    · replace h := if_f e22 h
      refine b_R_value_61 (l_a0 := l_a0) (k1 := t_R_fails l_a0 rfl ?_)
      obtain ⟨h10, h⟩ := grd_some h
      exact b_R_value_67 (nz2 := h10) (k1 := lfI h k)
  · replace h := if_f e20 h
    obtain ⟨v11, s12, h27, h⟩ := bnd2_some h
    refine b_R_value_21 (l_a0 := l_a0) (k1 := t_R_numberHere l_a0 h27 ?_)
    obtain ⟨j16, hdj16, h⟩ := jn_some h
    have hj16 : ∀ (s17 : AS), j16 s17 = some (v, s') → V κ M_R_value (RI F) 39 [none, none, none] [] s17 := by
      intro s17 h
      rw [hdj16] at h
      exact b_R_value_39  (k1 := lfI h k)
    clear hdj16
    refine b_R_value_28  (k1 := fun e28 => ?_) (k2 := fun e28 => ?_)
    · replace h := if_t e28 h
      exact hj16 _  h
    · replace h := if_f e28 h
      obtain ⟨v13, s14, h29, h⟩ := bnd2_some h
      refine b_R_value_31 (l_a0 := l_a0) (k1 := t_R_makes l_a0 h29 ?_)
      refine b_R_value_36  (k1 := fun e30 => ?_) (k2 := fun e30 => ?_)
      · replace h := if_f e30 h
        obtain ⟨s15, h31, h⟩ := bnd_some h
        refine b_R_value_41 (l_a0 := l_a0) (k1 := t_R_puts l_a0 h31 ?_)
        exact b_R_value_50  (k1 := lfI h k)
      · replace h := if_t e30 h
        exact hj16 _  h
noncomputable def L_R_term_9 (κ : Ko) : Nat → Nat → AS → Option (Int32 × AS)
  | 0, _, _ => none
  | d + 1, a0, st => bnd2 (f_R_see κ a0 st) (fun v3 s4 => jn (fun (s8 : AS) => jn (fun (v11 : Int32) => bnd2 (f_R_value κ a0 (ui s8 a0 11 ((gi s8 a0 11) + 1))) (fun v12 s13 => if v12 = 0 then some ((0 : Int32), s13) else bnd (f_R_puts κ a0 v11 (0 : Int32) s13) (fun s14 => L_R_term_9 κ  d a0 s14))) fun j10 => grd (vp_in (gi s8 a0 11) 400) (if (gi s8 (a0 + 1) (gi s8 a0 11 : Int32).toNatClampNeg) = 42 then j10 (4 : Int32) else j10 (5 : Int32))) fun j7 => if v3 = 42 then j7 s4 else bnd2 (f_R_see κ a0 s4) (fun v5 s6 => if v5 = 47 then j7 s6 else some ((1 : Int32), s6)))
noncomputable def f_R_term (κ : Ko) (a0 : Nat) (st : AS) : Option (Int32 × AS) := bnd2 (f_R_value κ a0 st) (fun v1 s2 => if v1 = 0 then some ((0 : Int32), s2) else L_R_term_9 κ  FU a0 s2)
theorem l_R_term_9 {κ : Ko} {F : Int32 → AS → Prop} {v : Int32} {s' : AS} (k : F v s') : ∀ (d : Nat) (a0 : Nat) (st : AS), ly κ a0 = (12, 36) → L_R_term_9 κ  d a0 st = some (v, s') → V κ M_R_term (RI F) 9 [some (.ref a0), none] [] st := by
  intro d
  induction d with
  | zero =>
    intro a0 st l_a0 h
    exact nn_some h
  | succ d ih =>
    intro a0 st l_a0 h
    rw [L_R_term_9] at h
    obtain ⟨v3, s4, h15, h⟩ := bnd2_some h
    refine b_R_term_9 (l_a0 := l_a0) (k1 := t_R_see l_a0 h15 ?_)
    obtain ⟨j7, hdj7, h⟩ := jn_some h
    have hj7 : ∀ (s8 : AS), j7 s8 = some (v, s') → V κ M_R_term (RI F) 27 [some (.ref a0), none] [] s8 := by
      intro s8 h
      rw [hdj7] at h
      obtain ⟨j10, hdj10, h⟩ := jn_some h
      have hj10 : ∀ (v11 : Int32), j10 v11 = some (v, s') → V κ M_R_term (RI F) 46 [some (.ref a0), none] [.int v11] s8 := by
        intro v11 h
        rw [hdj10] at h
        obtain ⟨v12, s13, h16, h⟩ := bnd2_some h
        refine b_R_term_46 (l_a0 := l_a0) (k1 := t_R_value l_a0 h16 ?_)
        refine b_R_term_61  (k1 := fun e17 => ?_) (k2 := fun e17 => ?_)
        · replace h := if_f e17 h
          obtain ⟨s14, h18, h⟩ := bnd_some h
          refine b_R_term_66 (l_a0 := l_a0) (k1 := t_R_puts l_a0 h18 ?_)
          refine b_R_term_72  (k1 := ?_)
          exact ih _ _ l_a0 h
        · replace h := if_t e17 h
          exact b_R_term_64  (k1 := lfI h k)
      clear hdj10
      obtain ⟨h9, h⟩ := grd_some h
      refine b_R_term_27 (l_a0 := l_a0) (b1 := h9) (k2 := fun e19 => ?_) (k3 := fun e19 => ?_)
      · replace h := if_f e19 h
        refine b_R_term_45  (k1 := ?_)
        exact hj10 _  h
      · replace h := if_t e19 h
        refine b_R_term_41  (k1 := ?_)
        exact hj10 _  h
    clear hdj7
    refine b_R_term_13  (k1 := fun e20 => ?_) (k2 := fun e20 => ?_)
    · replace h := if_t e20 h
      exact hj7 _  h
    · replace h := if_f e20 h
      obtain ⟨v5, s6, h21, h⟩ := bnd2_some h
      refine b_R_term_18 (l_a0 := l_a0) (k1 := t_R_see l_a0 h21 ?_)
      refine b_R_term_22  (k1 := fun e22 => ?_) (k2 := fun e22 => ?_)
      · replace h := if_f e22 h
        exact b_R_term_75  (k1 := lfI h k)
      · replace h := if_t e22 h
        exact hj7 _  h
theorem t_R_term {κ : Ko} {F : Int32 → AS → Prop} {a0 : Nat} {st : AS} {v : Int32} {s' : AS} (l_a0 : ly κ a0 = (12, 36)) (h : f_R_term κ a0 st = some (v, s')) (k : F v s') : C κ M_R_term [.ref a0] st (RI F) := by
  unfold f_R_term at h
  refine e_R_term ?_
  obtain ⟨v1, s2, h23, h⟩ := bnd2_some h
  refine b_R_term_0 (l_a0 := l_a0) (k1 := t_R_value l_a0 h23 ?_)
  refine b_R_term_4  (k1 := fun e24 => ?_) (k2 := fun e24 => ?_)
  · replace h := if_f e24 h
    refine l_R_term_9 k FU _ _ l_a0 h
  · replace h := if_t e24 h
    exact b_R_term_7  (k1 := lfI h k)
noncomputable def L_R_sum_9 (κ : Ko) : Nat → Nat → AS → Option (Int32 × AS)
  | 0, _, _ => none
  | d + 1, a0, st => bnd2 (f_R_see κ a0 st) (fun v3 s4 => jn (fun (s8 : AS) => jn (fun (v11 : Int32) => bnd2 (f_R_term κ a0 (ui s8 a0 11 ((gi s8 a0 11) + 1))) (fun v12 s13 => if v12 = 0 then some ((0 : Int32), s13) else bnd (f_R_puts κ a0 v11 (0 : Int32) s13) (fun s14 => L_R_sum_9 κ  d a0 s14))) fun j10 => grd (vp_in (gi s8 a0 11) 400) (if (gi s8 (a0 + 1) (gi s8 a0 11 : Int32).toNatClampNeg) = 43 then j10 (2 : Int32) else j10 (3 : Int32))) fun j7 => if v3 = 43 then j7 s4 else bnd2 (f_R_see κ a0 s4) (fun v5 s6 => if v5 = 45 then j7 s6 else some ((1 : Int32), s6)))
noncomputable def f_R_sum (κ : Ko) (a0 : Nat) (st : AS) : Option (Int32 × AS) := bnd2 (f_R_term κ a0 st) (fun v1 s2 => if v1 = 0 then some ((0 : Int32), s2) else L_R_sum_9 κ  FU a0 s2)
theorem l_R_sum_9 {κ : Ko} {F : Int32 → AS → Prop} {v : Int32} {s' : AS} (k : F v s') : ∀ (d : Nat) (a0 : Nat) (st : AS), ly κ a0 = (12, 36) → L_R_sum_9 κ  d a0 st = some (v, s') → V κ M_R_sum (RI F) 9 [some (.ref a0), none] [] st := by
  intro d
  induction d with
  | zero =>
    intro a0 st l_a0 h
    exact nn_some h
  | succ d ih =>
    intro a0 st l_a0 h
    rw [L_R_sum_9] at h
    obtain ⟨v3, s4, h15, h⟩ := bnd2_some h
    refine b_R_sum_9 (l_a0 := l_a0) (k1 := t_R_see l_a0 h15 ?_)
    obtain ⟨j7, hdj7, h⟩ := jn_some h
    have hj7 : ∀ (s8 : AS), j7 s8 = some (v, s') → V κ M_R_sum (RI F) 27 [some (.ref a0), none] [] s8 := by
      intro s8 h
      rw [hdj7] at h
      obtain ⟨j10, hdj10, h⟩ := jn_some h
      have hj10 : ∀ (v11 : Int32), j10 v11 = some (v, s') → V κ M_R_sum (RI F) 46 [some (.ref a0), none] [.int v11] s8 := by
        intro v11 h
        rw [hdj10] at h
        obtain ⟨v12, s13, h16, h⟩ := bnd2_some h
        refine b_R_sum_46 (l_a0 := l_a0) (k1 := t_R_term l_a0 h16 ?_)
        refine b_R_sum_61  (k1 := fun e17 => ?_) (k2 := fun e17 => ?_)
        · replace h := if_f e17 h
          obtain ⟨s14, h18, h⟩ := bnd_some h
          refine b_R_sum_66 (l_a0 := l_a0) (k1 := t_R_puts l_a0 h18 ?_)
          refine b_R_sum_72  (k1 := ?_)
          exact ih _ _ l_a0 h
        · replace h := if_t e17 h
          exact b_R_sum_64  (k1 := lfI h k)
      clear hdj10
      obtain ⟨h9, h⟩ := grd_some h
      refine b_R_sum_27 (l_a0 := l_a0) (b1 := h9) (k2 := fun e19 => ?_) (k3 := fun e19 => ?_)
      · replace h := if_f e19 h
        refine b_R_sum_45  (k1 := ?_)
        exact hj10 _  h
      · replace h := if_t e19 h
        refine b_R_sum_41  (k1 := ?_)
        exact hj10 _  h
    clear hdj7
    refine b_R_sum_13  (k1 := fun e20 => ?_) (k2 := fun e20 => ?_)
    · replace h := if_t e20 h
      exact hj7 _  h
    · replace h := if_f e20 h
      obtain ⟨v5, s6, h21, h⟩ := bnd2_some h
      refine b_R_sum_18 (l_a0 := l_a0) (k1 := t_R_see l_a0 h21 ?_)
      refine b_R_sum_22  (k1 := fun e22 => ?_) (k2 := fun e22 => ?_)
      · replace h := if_f e22 h
        exact b_R_sum_75  (k1 := lfI h k)
      · replace h := if_t e22 h
        exact hj7 _  h
theorem t_R_sum {κ : Ko} {F : Int32 → AS → Prop} {a0 : Nat} {st : AS} {v : Int32} {s' : AS} (l_a0 : ly κ a0 = (12, 36)) (h : f_R_sum κ a0 st = some (v, s')) (k : F v s') : C κ M_R_sum [.ref a0] st (RI F) := by
  unfold f_R_sum at h
  refine e_R_sum ?_
  obtain ⟨v1, s2, h23, h⟩ := bnd2_some h
  refine b_R_sum_0 (l_a0 := l_a0) (k1 := t_R_term l_a0 h23 ?_)
  refine b_R_sum_4  (k1 := fun e24 => ?_) (k2 := fun e24 => ?_)
  · replace h := if_f e24 h
    refine l_R_sum_9 k FU _ _ l_a0 h
  · replace h := if_t e24 h
    exact b_R_sum_7  (k1 := lfI h k)
noncomputable def f_R_takesWord (κ : Ko) (a0 : Nat) (y1 : Int64) (st : AS) : Option (Int32 × AS) := bnd2 (f_R_isWord κ a0 y1 st) (fun v1 s2 => if v1 = 0 then some ((0 : Int32), s2) else bnd (f_R_passWord κ a0 s2) (fun s3 => some ((1 : Int32), s3)))
theorem t_R_takesWord {κ : Ko} {F : Int32 → AS → Prop} {a0 : Nat} {y1 : Int64} {st : AS} {v : Int32} {s' : AS} (l_a0 : ly κ a0 = (12, 36)) (h : f_R_takesWord κ a0 y1 st = some (v, s')) (k : F v s') : C κ M_R_takesWord [.ref a0, .long y1] st (RI F) := by
  unfold f_R_takesWord at h
  refine e_R_takesWord ?_
  obtain ⟨v1, s2, h4, h⟩ := bnd2_some h
  refine b_R_takesWord_0 (l_a0 := l_a0) (k1 := t_R_isWord l_a0 h4 ?_)
  refine b_R_takesWord_5  (k1 := fun e5 => ?_) (k2 := fun e5 => ?_)
  · replace h := if_f e5 h
    obtain ⟨s3, h6, h⟩ := bnd_some h
    refine b_R_takesWord_10 (l_a0 := l_a0) (k1 := t_R_passWord l_a0 h6 ?_)
    exact b_R_takesWord_14  (k1 := lfI h k)
  · replace h := if_t e5 h
    exact b_R_takesWord_8  (k1 := lfI h k)
noncomputable def f_R_opens (κ : Ko) (a0 : Nat) (x1 : Int32) (st : AS) : Option (Int32 × AS) := if (gi st a0 16) = 10 then grd (((f_R_fails κ a0 (2 : Int32) (gi st a0 11) st).1) = 0 ∨ ((f_R_fails κ a0 (2 : Int32) (gi st a0 11) st).1) = 1) (some (((f_R_fails κ a0 (2 : Int32) (gi st a0 11) st).1), ((f_R_fails κ a0 (2 : Int32) (gi st a0 11) st).2))) else grd (vp_in (gi (ui st a0 16 ((gi st a0 16) + 1)) a0 19) 400) (some ((1 : Int32), ui (ui (ui st a0 16 ((gi st a0 16) + 1)) (a0 + 11) (gi (ui st a0 16 ((gi st a0 16) + 1)) a0 19 : Int32).toNatClampNeg x1) a0 19 ((gi (ui (ui st a0 16 ((gi st a0 16) + 1)) (a0 + 11) (gi (ui st a0 16 ((gi st a0 16) + 1)) a0 19 : Int32).toNatClampNeg x1) a0 19) + 1)))
theorem t_R_opens {κ : Ko} {F : Int32 → AS → Prop} {a0 : Nat} {x1 : Int32} {st : AS} {v : Int32} {s' : AS} (l_a0 : ly κ a0 = (12, 36)) (h : f_R_opens κ a0 x1 st = some (v, s')) (k : F v s') : C κ M_R_opens [.ref a0, .int x1] st (RI F) := by
  unfold f_R_opens at h
  refine e_R_opens ?_
  refine b_R_opens_0 (l_a0 := l_a0) (k1 := fun e3 => ?_) (k2 := fun e3 => ?_)
  · replace h := if_f e3 h
    obtain ⟨h1, h⟩ := grd_some h
    exact b_R_opens_19 (l_a0 := l_a0) (b1 := h1) (k2 := lfI h k)
  · replace h := if_t e3 h
    refine b_R_opens_9 (l_a0 := l_a0) (k1 := t_R_fails l_a0 rfl ?_)
    obtain ⟨h2, h⟩ := grd_some h
    exact b_R_opens_18 (nz2 := h2) (k1 := lfI h k)
noncomputable def f_R_compare (κ : Ko) (a0 : Nat) (st : AS) : Option (Int32 × AS) := bnd2 (f_R_sum κ a0 st) (fun v1 s2 => if v1 = 0 then some ((0 : Int32), s2) else bnd2 (f_R_see κ a0 s2) (fun v3 s4 => jn (fun (v7 : Int32) => jn (fun (v12 : Int32) (s13 : AS) => jn (fun (s15 : AS) => bnd2 (f_R_makes κ a0 v7 s15) (fun v16 s17 => if v16 = 0 then some ((0 : Int32), s17) else bnd2 (f_R_sum κ a0 s17) (fun v18 s19 => if v18 = 0 then some ((0 : Int32), s19) else bnd (f_R_puts κ a0 ((6 : Int32) + (if v3 = 60 then (if v12 = 0 then (0 : Int32) else (1 : Int32) : Int32) else (if v3 = 61 then (2 : Int32) else (if v12 = 0 then (4 : Int32) else (3 : Int32) : Int32) : Int32) : Int32)) (0 : Int32) s19) (fun s20 => some ((1 : Int32), s20))))) fun j14 => if v12 = 0 then j14 s13 else j14 (ui s13 a0 11 ((gi s13 a0 11) + 1))) fun j11 => jn (fun (s10 : AS) => j11 (0 : Int32) s10) fun j9 => if v3 = 61 then j9 (ui s4 a0 11 ((gi s4 a0 11) + 1)) else if (gi (ui s4 a0 11 ((gi s4 a0 11) + 1)) a0 1) ≤ (gi (ui s4 a0 11 ((gi s4 a0 11) + 1)) a0 11) then j9 (ui s4 a0 11 ((gi s4 a0 11) + 1)) else grd (vp_in (gi (ui s4 a0 11 ((gi s4 a0 11) + 1)) a0 11) 400) (if (gi (ui s4 a0 11 ((gi s4 a0 11) + 1)) (a0 + 1) (gi (ui s4 a0 11 ((gi s4 a0 11) + 1)) a0 11 : Int32).toNatClampNeg) = 61 then j11 (1 : Int32) (ui s4 a0 11 ((gi s4 a0 11) + 1)) else j9 (ui s4 a0 11 ((gi s4 a0 11) + 1)))) fun j6 => if v3 = 60 then j6 (gi s4 a0 11) else if v3 = 61 then j6 (gi s4 a0 11) else if v3 = 62 then j6 (gi s4 a0 11) else grd (((f_R_fails κ a0 (0 : Int32) (gi s4 a0 11) s4).1) = 0 ∨ ((f_R_fails κ a0 (0 : Int32) (gi s4 a0 11) s4).1) = 1) (some (((f_R_fails κ a0 (0 : Int32) (gi s4 a0 11) s4).1), ((f_R_fails κ a0 (0 : Int32) (gi s4 a0 11) s4).2)))))
theorem t_R_compare {κ : Ko} {F : Int32 → AS → Prop} {a0 : Nat} {st : AS} {v : Int32} {s' : AS} (l_a0 : ly κ a0 = (12, 36)) (h : f_R_compare κ a0 st = some (v, s')) (k : F v s') : C κ M_R_compare [.ref a0] st (RI F) := by
  unfold f_R_compare at h
  refine e_R_compare ?_
  obtain ⟨v1, s2, h21, h⟩ := bnd2_some h
  refine b_R_compare_0 (l_a0 := l_a0) (k1 := t_R_sum l_a0 h21 ?_)
  refine b_R_compare_4  (k1 := fun e22 => ?_) (k2 := fun e22 => ?_)
  · replace h := if_f e22 h
    obtain ⟨v3, s4, h23, h⟩ := bnd2_some h
    refine b_R_compare_9 (l_a0 := l_a0) (k1 := t_R_see l_a0 h23 ?_)
    obtain ⟨j6, hdj6, h⟩ := jn_some h
    have hj6 : ∀ (v7 : Int32), j6 v7 = some (v, s') → V κ M_R_compare (RI F) 44 [some (.ref a0), some (.int v3), some (.int v7), none, none] [] s4 := by
      intro v7 h
      rw [hdj6] at h
      obtain ⟨j11, hdj11, h⟩ := jn_some h
      have hj11 : ∀ (v12 : Int32) (s13 : AS), j11 v12 s13 = some (v, s') → V κ M_R_compare (RI F) 90 [some (.ref a0), some (.int v3), some (.int v7), none, none] [.int v12] s13 := by
        intro v12 s13 h
        rw [hdj11] at h
        obtain ⟨j14, hdj14, h⟩ := jn_some h
        have hj14 : ∀ (s15 : AS), j14 s15 = some (v, s') → V κ M_R_compare (RI F) 105 [some (.ref a0), some (.int v3), some (.int v7), some (.int v12), none] [] s15 := by
          intro s15 h
          rw [hdj14] at h
          obtain ⟨v16, s17, h24, h⟩ := bnd2_some h
          refine b_R_compare_105 (l_a0 := l_a0) (k1 := t_R_makes l_a0 h24 ?_)
          refine b_R_compare_110  (k1 := fun e25 => ?_) (k2 := fun e25 => ?_)
          · replace h := if_f e25 h
            have K27 : V κ M_R_compare (RI F) 152 [some (.ref a0), none, none, none, none] [.int (if v3 = 60 then (if v12 = 0 then (0 : Int32) else (1 : Int32) : Int32) else (if v3 = 61 then (2 : Int32) else (if v12 = 0 then (4 : Int32) else (3 : Int32) : Int32) : Int32) : Int32)] s17 := by
              obtain ⟨v18, s19, h28, h⟩ := bnd2_some h
              refine b_R_compare_152 (l_a0 := l_a0) (k1 := t_R_sum l_a0 h28 ?_)
              refine b_R_compare_158  (k1 := fun e29 => ?_) (k2 := fun e29 => ?_)
              · replace h := if_f e29 h
                obtain ⟨s20, h30, h⟩ := bnd_some h
                refine b_R_compare_163 (l_a0 := l_a0) (k1 := t_R_puts l_a0 h30 ?_)
                exact b_R_compare_173  (k1 := lfI h k)
              · replace h := if_t e29 h
                exact b_R_compare_161  (k1 := lfI h k)
            refine b_R_compare_115  (k1 := fun e31 => ?_) (k2 := fun e31 => ?_)
            · refine b_R_compare_133  (k1 := fun e32 => ?_) (k2 := fun e32 => ?_)
              · refine b_R_compare_143  (k1 := fun e33 => ?_) (k2 := fun e33 => ?_)
                · refine b_R_compare_151  (k1 := ?_)
                  exact (ite_t (P := fun z => V κ M_R_compare (RI F) 152 [some (.ref a0), none, none, none, none] [.int z] s17) e33 (ite_f (P := fun z => V κ M_R_compare (RI F) 152 [some (.ref a0), none, none, none, none] [.int z] s17) e32 (ite_f (P := fun z => V κ M_R_compare (RI F) 152 [some (.ref a0), none, none, none, none] [.int z] s17) e31 K27)))
                · refine b_R_compare_147  (k1 := ?_)
                  exact (ite_f (P := fun z => V κ M_R_compare (RI F) 152 [some (.ref a0), none, none, none, none] [.int z] s17) e33 (ite_f (P := fun z => V κ M_R_compare (RI F) 152 [some (.ref a0), none, none, none, none] [.int z] s17) e32 (ite_f (P := fun z => V κ M_R_compare (RI F) 152 [some (.ref a0), none, none, none, none] [.int z] s17) e31 K27)))
              · refine b_R_compare_139  (k1 := ?_)
                exact (ite_t (P := fun z => V κ M_R_compare (RI F) 152 [some (.ref a0), none, none, none, none] [.int z] s17) e32 (ite_f (P := fun z => V κ M_R_compare (RI F) 152 [some (.ref a0), none, none, none, none] [.int z] s17) e31 K27))
            · refine b_R_compare_121  (k1 := fun e34 => ?_) (k2 := fun e34 => ?_)
              · refine b_R_compare_129  (k1 := ?_)
                exact (ite_t (P := fun z => V κ M_R_compare (RI F) 152 [some (.ref a0), none, none, none, none] [.int z] s17) e34 (ite_t (P := fun z => V κ M_R_compare (RI F) 152 [some (.ref a0), none, none, none, none] [.int z] s17) e31 K27))
              · refine b_R_compare_125  (k1 := ?_)
                exact (ite_f (P := fun z => V κ M_R_compare (RI F) 152 [some (.ref a0), none, none, none, none] [.int z] s17) e34 (ite_t (P := fun z => V κ M_R_compare (RI F) 152 [some (.ref a0), none, none, none, none] [.int z] s17) e31 K27))
          · replace h := if_t e25 h
            exact b_R_compare_113  (k1 := lfI h k)
        clear hdj14
        refine b_R_compare_90  (k1 := fun e35 => ?_) (k2 := fun e35 => ?_)
        · replace h := if_t e35 h
          exact hj14 _  h
        · replace h := if_f e35 h
          refine b_R_compare_95 (l_a0 := l_a0) (k1 := ?_)
          exact hj14 _  h
      clear hdj11
      obtain ⟨j9, hdj9, h⟩ := jn_some h
      have hj9 : ∀ (s10 : AS), j9 s10 = some (v, s') → V κ M_R_compare (RI F) 89 [some (.ref a0), some (.int v3), some (.int v7), none, none] [] s10 := by
        intro s10 h
        rw [hdj9] at h
        refine b_R_compare_89  (k1 := ?_)
        exact hj11 _ _  h
      clear hdj9
      refine b_R_compare_44 (l_a0 := l_a0) (k1 := fun e36 => ?_) (k2 := fun e36 => ?_)
      · replace h := if_t e36 h
        exact hj9 _  h
      · replace h := if_f e36 h
        refine b_R_compare_60 (l_a0 := l_a0) (k1 := fun e37 => ?_) (k2 := fun e37 => ?_)
        · replace h := if_t e37 h
          exact hj9 _  h
        · replace h := if_f e37 h
          obtain ⟨h8, h⟩ := grd_some h
          refine b_R_compare_71 (l_a0 := l_a0) (b1 := h8) (k2 := fun e38 => ?_) (k3 := fun e38 => ?_)
          · replace h := if_f e38 h
            exact hj9 _  h
          · replace h := if_t e38 h
            refine b_R_compare_85  (k1 := ?_)
            exact hj11 _ _  h
    clear hdj6
    refine b_R_compare_13 (l_a0 := l_a0) (k1 := fun e39 => ?_) (k2 := fun e39 => ?_)
    · replace h := if_t e39 h
      exact hj6 _  h
    · replace h := if_f e39 h
      refine b_R_compare_25  (k1 := fun e40 => ?_) (k2 := fun e40 => ?_)
      · replace h := if_t e40 h
        exact hj6 _  h
      · replace h := if_f e40 h
        refine b_R_compare_31  (k1 := fun e41 => ?_) (k2 := fun e41 => ?_)
        · replace h := if_t e41 h
          exact hj6 _  h
        · replace h := if_f e41 h
          refine b_R_compare_37 (l_a0 := l_a0) (k1 := t_R_fails l_a0 rfl ?_)
          obtain ⟨h5, h⟩ := grd_some h
          exact b_R_compare_43 (nz2 := h5) (k1 := lfI h k)
  · replace h := if_t e22 h
    exact b_R_compare_7  (k1 := lfI h k)
noncomputable def L_R_fact_2 (κ : Ko) (k_75 : Nat → AS → Option (Int32 × AS)) : Nat → Nat → Int32 → AS → Option (Int32 × AS)
  | 0, _, _, _ => none
  | d + 1, a0, x1, st => if x1 = 0 then k_75 a0 st else bnd2 (f_R_see κ a0 st) (fun v1 s2 => bnd2 (f_R_isWord κ a0 (7237492 : Int64) s2) (fun v3 s4 => if v3 = 0 then if v1 = 91 then bnd2 (f_R_opens κ a0 (91 : Int32) s4) (fun v5 s6 => if v5 = 0 then some ((0 : Int32), s6) else L_R_fact_2 κ k_75 d a0 (1 : Int32) (ui s6 a0 11 ((gi s6 a0 11) + 1))) else L_R_fact_2 κ k_75 d a0 (0 : Int32) s4 else bnd2 (f_R_opens κ a0 (11 : Int32) s4) (fun v7 s8 => if v7 = 0 then some ((0 : Int32), s8) else bnd (f_R_passWord κ a0 s8) (fun s9 => L_R_fact_2 κ k_75 d a0 (1 : Int32) s9))))
noncomputable def f_R_fact (κ : Ko) (a0 : Nat) (st : AS) : Option (Int32 × AS) := L_R_fact_2 κ (fun (v20 : Nat) (s22 : AS) => bnd2 (f_R_compare κ v20 s22) (fun v23 s24 => grd (v23 = 0 ∨ v23 = 1) (some (v23, s24)))) FU a0 (1 : Int32) st
theorem l_R_fact_2 {κ : Ko} {F : Int32 → AS → Prop} {v : Int32} {s' : AS} (k : F v s') {k_75 : Nat → AS → Option (Int32 × AS)} (hk_75 : ∀ (a0 : Nat) (st : AS), ly κ a0 = (12, 36) → k_75 a0 st = some (v, s') → V κ M_R_fact (RI F) 75 [some (.ref a0), none, none] [] st) : ∀ (d : Nat) (a0 : Nat) (x1 : Int32) (st : AS), ly κ a0 = (12, 36) → L_R_fact_2 κ k_75 d a0 x1 st = some (v, s') → V κ M_R_fact (RI F) 2 [some (.ref a0), some (.int x1), none] [] st := by
  intro d
  induction d with
  | zero =>
    intro a0 x1 st l_a0 h
    exact nn_some h
  | succ d ih =>
    intro a0 x1 st l_a0 h
    rw [L_R_fact_2] at h
    refine b_R_fact_2  (k1 := fun e10 => ?_) (k2 := fun e10 => ?_)
    · replace h := if_t e10 h
      exact hk_75 _ _ l_a0 h
    · replace h := if_f e10 h
      obtain ⟨v1, s2, h11, h⟩ := bnd2_some h
      refine b_R_fact_6 (l_a0 := l_a0) (k1 := t_R_see l_a0 h11 ?_)
      obtain ⟨v3, s4, h12, h⟩ := bnd2_some h
      refine b_R_fact_12 (l_a0 := l_a0) (k1 := t_R_isWord l_a0 h12 ?_)
      refine b_R_fact_20  (k1 := fun e13 => ?_) (k2 := fun e13 => ?_)
      · replace h := if_t e13 h
        refine b_R_fact_43  (k1 := fun e14 => ?_) (k2 := fun e14 => ?_)
        · replace h := if_f e14 h
          refine b_R_fact_72  (k1 := ?_)
          exact ih _ _ _ l_a0 h
        · replace h := if_t e14 h
          obtain ⟨v5, s6, h15, h⟩ := bnd2_some h
          refine b_R_fact_49 (l_a0 := l_a0) (k1 := t_R_opens l_a0 h15 ?_)
          refine b_R_fact_55  (k1 := fun e16 => ?_) (k2 := fun e16 => ?_)
          · replace h := if_f e16 h
            refine b_R_fact_60 (l_a0 := l_a0) (k1 := ?_)
            exact ih _ _ _ l_a0 h
          · replace h := if_t e16 h
            exact b_R_fact_58  (k1 := lfI h k)
      · replace h := if_f e13 h
        obtain ⟨v7, s8, h17, h⟩ := bnd2_some h
        refine b_R_fact_23 (l_a0 := l_a0) (k1 := t_R_opens l_a0 h17 ?_)
        refine b_R_fact_29  (k1 := fun e18 => ?_) (k2 := fun e18 => ?_)
        · replace h := if_f e18 h
          obtain ⟨s9, h19, h⟩ := bnd_some h
          refine b_R_fact_34 (l_a0 := l_a0) (k1 := t_R_passWord l_a0 h19 ?_)
          refine b_R_fact_38  (k1 := ?_)
          exact ih _ _ _ l_a0 h
        · replace h := if_t e18 h
          exact b_R_fact_32  (k1 := lfI h k)
theorem t_R_fact {κ : Ko} {F : Int32 → AS → Prop} {a0 : Nat} {st : AS} {v : Int32} {s' : AS} (l_a0 : ly κ a0 = (12, 36)) (h : f_R_fact κ a0 st = some (v, s')) (k : F v s') : C κ M_R_fact [.ref a0] st (RI F) := by
  unfold f_R_fact at h
  refine e_R_fact ?_
  refine b_R_fact_0  (k1 := ?_)
  refine l_R_fact_2 k ?_ FU _ _ _ l_a0 h
  · intro v20 s22 l21 h
    obtain ⟨v23, s24, h26, h⟩ := bnd2_some h
    refine b_R_fact_75 (l_a0 := l21) (k1 := t_R_compare l21 h26 ?_)
    obtain ⟨h25, h⟩ := grd_some h
    exact b_R_fact_79 (nz2 := h25) (k1 := lfI h k)
noncomputable def f_R_prec (κ : Ko) (x0 : Int32) (st : AS) : Int32 := (if x0 = 13 then (1 : Int32) else (if x0 = 12 then (2 : Int32) else (if x0 = 11 then (3 : Int32) else (0 : Int32) : Int32) : Int32) : Int32)
theorem t_R_prec {κ : Ko} {F : Int32 → AS → Prop} {x0 : Int32} {st : AS} {v : Int32} (h : f_R_prec κ x0 st = v) (k : F v st) : C κ M_R_prec [.int x0] st (RI F) := by
  unfold f_R_prec at h
  refine e_R_prec ?_
  have K2 : (RI F) (some (.int (if x0 = 13 then (1 : Int32) else (if x0 = 12 then (2 : Int32) else (if x0 = 11 then (3 : Int32) else (0 : Int32) : Int32) : Int32) : Int32))) st := lfIPT h k
  refine b_R_prec_0  (k1 := fun e3 => ?_) (k2 := fun e3 => ?_)
  · refine b_R_prec_10  (k1 := fun e4 => ?_) (k2 := fun e4 => ?_)
    · refine b_R_prec_20  (k1 := fun e5 => ?_) (k2 := fun e5 => ?_)
      · exact b_R_prec_30  (k1 := (ite_f (P := fun z => (RI F) (some (.int z)) st) e5 (ite_f (P := fun z => (RI F) (some (.int z)) st) e4 (ite_f (P := fun z => (RI F) (some (.int z)) st) e3 K2))))
      · exact b_R_prec_26  (k1 := (ite_t (P := fun z => (RI F) (some (.int z)) st) e5 (ite_f (P := fun z => (RI F) (some (.int z)) st) e4 (ite_f (P := fun z => (RI F) (some (.int z)) st) e3 K2))))
    · exact b_R_prec_16  (k1 := (ite_t (P := fun z => (RI F) (some (.int z)) st) e4 (ite_f (P := fun z => (RI F) (some (.int z)) st) e3 K2)))
  · exact b_R_prec_6  (k1 := (ite_t (P := fun z => (RI F) (some (.int z)) st) e3 K2))
noncomputable def L_R_settles_0 (κ : Ko) : Nat → Nat → Int32 → AS → Option AS
  | 0, _, _, _ => none
  | d + 1, a0, x1, st => if (gi st a0 19) ≤ 0 then some st else grd (vp_in ((gi st a0 19) - 1) 400) (if (f_R_prec κ (gi st (a0 + 11) ((gi st a0 19) - 1 : Int32).toNatClampNeg) st) < x1 then some st else grd (vp_in (gi (ui st a0 19 ((gi st a0 19) - 1)) a0 19) 400) (bnd (f_R_puts κ a0 (gi (ui st a0 19 ((gi st a0 19) - 1)) (a0 + 11) (gi (ui st a0 19 ((gi st a0 19) - 1)) a0 19 : Int32).toNatClampNeg) (0 : Int32) (ui st a0 19 ((gi st a0 19) - 1))) (fun s3 => grd (vp_in (gi s3 a0 19) 400) (if (gi s3 (a0 + 11) (gi s3 a0 19 : Int32).toNatClampNeg) = 11 then L_R_settles_0 κ  d a0 x1 (ui s3 a0 16 ((gi s3 a0 16) - 1)) else L_R_settles_0 κ  d a0 x1 s3))))
noncomputable def f_R_settles (κ : Ko) (a0 : Nat) (x1 : Int32) (st : AS) : Option AS := L_R_settles_0 κ  FU a0 x1 st
theorem l_R_settles_0 {κ : Ko} {F : AS → Prop} {s' : AS} (k : F s') : ∀ (d : Nat) (a0 : Nat) (x1 : Int32) (st : AS), ly κ a0 = (12, 36) → L_R_settles_0 κ  d a0 x1 st = some s' → V κ M_R_settles (RV F) 0 [some (.ref a0), some (.int x1)] [] st := by
  intro d
  induction d with
  | zero =>
    intro a0 x1 st l_a0 h
    exact nn_some h
  | succ d ih =>
    intro a0 x1 st l_a0 h
    rw [L_R_settles_0] at h
    refine b_R_settles_0 (l_a0 := l_a0) (k1 := fun e5 => ?_) (k2 := fun e5 => ?_)
    · replace h := if_t e5 h
      exact b_R_settles_76  (k1 := lfV h k)
    · replace h := if_f e5 h
      obtain ⟨h1, h⟩ := grd_some h
      refine b_R_settles_7 (l_a0 := l_a0) (b1 := h1) (k2 := t_R_prec  rfl ?_)
      refine b_R_settles_21  (k1 := fun e6 => ?_) (k2 := fun e6 => ?_)
      · replace h := if_t e6 h
        exact b_R_settles_76  (k1 := lfV h k)
      · replace h := if_f e6 h
        obtain ⟨h2, h⟩ := grd_some h
        obtain ⟨s3, h7, h⟩ := bnd_some h
        refine b_R_settles_25 (l_a0 := l_a0) (b1 := h2) (k2 := t_R_puts l_a0 h7 ?_)
        obtain ⟨h4, h⟩ := grd_some h
        refine b_R_settles_49 (l_a0 := l_a0) (b1 := h4) (k2 := fun e8 => ?_) (k3 := fun e8 => ?_)
        · replace h := if_f e8 h
          exact ih _ _ _ l_a0 h
        · replace h := if_t e8 h
          refine b_R_settles_63 (l_a0 := l_a0) (k1 := ?_)
          exact ih _ _ _ l_a0 h
theorem t_R_settles {κ : Ko} {F : AS → Prop} {a0 : Nat} {x1 : Int32} {st : AS} {s' : AS} (l_a0 : ly κ a0 = (12, 36)) (h : f_R_settles κ a0 x1 st = some s') (k : F s') : C κ M_R_settles [.ref a0, .int x1] st (RV F) := by
  unfold f_R_settles at h
  refine e_R_settles ?_
  refine l_R_settles_0 k FU _ _ _ l_a0 h
noncomputable def L_R_isInside_2 (κ : Ko) (st : AS) : Nat → Nat → Int32 → Option Int32
  | 0, _, _ => none
  | d + 1, a0, x1 => if (gi st a0 19) ≤ x1 then some (0 : Int32) else grd (vp_in x1 400) (if (gi st (a0 + 11) (x1 : Int32).toNatClampNeg) = 91 then some (1 : Int32) else L_R_isInside_2 κ st  d a0 (x1 + 1))
noncomputable def f_R_isInside (κ : Ko) (a0 : Nat) (st : AS) : Option Int32 := L_R_isInside_2 κ st  FU a0 (0 : Int32)
theorem l_R_isInside_2 {κ : Ko} {F : Int32 → AS → Prop} {v : Int32} {st : AS} (k : F v st) : ∀ (d : Nat) (a0 : Nat) (x1 : Int32), ly κ a0 = (12, 36) → L_R_isInside_2 κ st  d a0 x1 = some v → V κ M_R_isInside (RI F) 2 [some (.ref a0), some (.int x1)] [] st := by
  intro d
  induction d with
  | zero =>
    intro a0 x1 l_a0 h
    exact nn_some h
  | succ d ih =>
    intro a0 x1 l_a0 h
    rw [L_R_isInside_2] at h
    refine b_R_isInside_2 (l_a0 := l_a0) (k1 := fun e2 => ?_) (k2 := fun e2 => ?_)
    · replace h := if_t e2 h
      exact b_R_isInside_29  (k1 := lfIP h k)
    · replace h := if_f e2 h
      obtain ⟨h1, h⟩ := grd_some h
      refine b_R_isInside_10 (l_a0 := l_a0) (b1 := h1) (k2 := fun e3 => ?_) (k3 := fun e3 => ?_)
      · replace h := if_f e3 h
        refine b_R_isInside_23  (k1 := ?_)
        exact ih _ _ l_a0 h
      · replace h := if_t e3 h
        exact b_R_isInside_21  (k1 := lfIP h k)
theorem t_R_isInside {κ : Ko} {F : Int32 → AS → Prop} {a0 : Nat} {st : AS} {v : Int32} (l_a0 : ly κ a0 = (12, 36)) (h : f_R_isInside κ a0 st = some v) (k : F v st) : C κ M_R_isInside [.ref a0] st (RI F) := by
  unfold f_R_isInside at h
  refine e_R_isInside ?_
  refine b_R_isInside_0  (k1 := ?_)
  refine l_R_isInside_2 k FU _ _ l_a0 h
noncomputable def L_R_closes_5 (κ : Ko) : Nat → Nat → AS → Option AS
  | 0, _, _ => none
  | d + 1, a0, st => bnd2 (f_R_see κ a0 st) (fun v2 s3 => if v2 = 93 then bnd (f_R_isInside κ a0 s3) (fun v4 => if v4 = 0 then some s3 else bnd (f_R_settles κ a0 (1 : Int32) s3) (fun s5 => bnd (f_R_settles κ a0 (3 : Int32) (ui (ui (ui s5 a0 19 ((gi s5 a0 19) - 1)) a0 16 ((gi (ui s5 a0 19 ((gi s5 a0 19) - 1)) a0 16) - 1)) a0 11 ((gi (ui (ui s5 a0 19 ((gi s5 a0 19) - 1)) a0 16 ((gi (ui s5 a0 19 ((gi s5 a0 19) - 1)) a0 16) - 1)) a0 11) + 1))) (fun s6 => L_R_closes_5 κ  d a0 s6))) else some s3)
noncomputable def f_R_closes (κ : Ko) (a0 : Nat) (st : AS) : Option AS := bnd (f_R_settles κ a0 (3 : Int32) st) (fun s1 => L_R_closes_5 κ  FU a0 s1)
theorem l_R_closes_5 {κ : Ko} {F : AS → Prop} {s' : AS} (k : F s') : ∀ (d : Nat) (a0 : Nat) (st : AS), ly κ a0 = (12, 36) → L_R_closes_5 κ  d a0 st = some s' → V κ M_R_closes (RV F) 5 [some (.ref a0)] [] st := by
  intro d
  induction d with
  | zero =>
    intro a0 st l_a0 h
    exact nn_some h
  | succ d ih =>
    intro a0 st l_a0 h
    rw [L_R_closes_5] at h
    obtain ⟨v2, s3, h7, h⟩ := bnd2_some h
    refine b_R_closes_5 (l_a0 := l_a0) (k1 := t_R_see l_a0 h7 ?_)
    refine b_R_closes_9  (k1 := fun e8 => ?_) (k2 := fun e8 => ?_)
    · replace h := if_f e8 h
      exact b_R_closes_64  (k1 := lfV h k)
    · replace h := if_t e8 h
      obtain ⟨v4, h9, h⟩ := bnd_some h
      refine b_R_closes_14 (l_a0 := l_a0) (k1 := t_R_isInside l_a0 h9 ?_)
      refine b_R_closes_18  (k1 := fun e10 => ?_) (k2 := fun e10 => ?_)
      · replace h := if_t e10 h
        exact b_R_closes_64  (k1 := lfV h k)
      · replace h := if_f e10 h
        obtain ⟨s5, h11, h⟩ := bnd_some h
        refine b_R_closes_21 (l_a0 := l_a0) (k1 := t_R_settles l_a0 h11 ?_)
        obtain ⟨s6, h12, h⟩ := bnd_some h
        refine b_R_closes_26 (l_a0 := l_a0) (k1 := t_R_settles l_a0 h12 ?_)
        refine b_R_closes_61  (k1 := ?_)
        exact ih _ _ l_a0 h
theorem t_R_closes {κ : Ko} {F : AS → Prop} {a0 : Nat} {st : AS} {s' : AS} (l_a0 : ly κ a0 = (12, 36)) (h : f_R_closes κ a0 st = some s') (k : F s') : C κ M_R_closes [.ref a0] st (RV F) := by
  unfold f_R_closes at h
  refine e_R_closes ?_
  obtain ⟨s1, h13, h⟩ := bnd_some h
  refine b_R_closes_0 (l_a0 := l_a0) (k1 := t_R_settles l_a0 h13 ?_)
  refine l_R_closes_5 k FU _ _ l_a0 h
noncomputable def L_R_tested_12 (κ : Ko) (k_112 : Nat → AS → Option (Int32 × AS)) : Nat → Nat → Int32 → AS → Option (Int32 × AS)
  | 0, _, _, _ => none
  | d + 1, a0, x1, st => if x1 = 0 then k_112 a0 st else bnd2 (f_R_fact κ a0 st) (fun v1 s2 => if v1 = 0 then some ((0 : Int32), s2) else bnd (f_R_closes κ a0 s2) (fun s3 => bnd2 (f_R_isWord κ a0 (6385252 : Int64) s3) (fun v4 s5 => jn (fun (v11 : Int32) (s12 : AS) => if v11 = 0 then L_R_tested_12 κ k_112 d a0 v11 s12 else bnd2 (f_R_isWord κ a0 (6385252 : Int64) s12) (fun v13 s14 => bnd (f_R_passWord κ a0 s14) (fun s15 => bnd (f_R_settles κ a0 (f_R_prec κ (if v13 = 0 then (13 : Int32) else (12 : Int32) : Int32) s15) s15) (fun s16 => grd (vp_in (gi s16 a0 19) 400) (L_R_tested_12 κ k_112 d a0 v11 (ui (ui s16 (a0 + 11) (gi s16 a0 19 : Int32).toNatClampNeg (if v13 = 0 then (13 : Int32) else (12 : Int32) : Int32)) a0 19 ((gi (ui s16 (a0 + 11) (gi s16 a0 19 : Int32).toNatClampNeg (if v13 = 0 then (13 : Int32) else (12 : Int32) : Int32)) a0 19) + 1))))))) fun j10 => jn (fun (s9 : AS) => j10 (1 : Int32) s9) fun j8 => if v4 = 0 then bnd2 (f_R_isWord κ a0 (28530 : Int64) s5) (fun v6 s7 => if v6 = 0 then j10 (0 : Int32) s7 else j8 s7) else j8 s5)))
noncomputable def f_R_tested (κ : Ko) (a0 : Nat) (st : AS) : Option (Int32 × AS) := L_R_tested_12 κ (fun (v33 : Nat) (s35 : AS) => bnd (f_R_isInside κ v33 s35) (fun v36 => if v36 = 0 then bnd (f_R_settles κ v33 (1 : Int32) s35) (fun s37 => some ((1 : Int32), s37)) else bnd2 (f_R_see κ v33 s35) (fun v38 s39 => grd (((f_R_fails κ v33 (0 : Int32) (gi s39 v33 11) s39).1) = 0 ∨ ((f_R_fails κ v33 (0 : Int32) (gi s39 v33 11) s39).1) = 1) (some (((f_R_fails κ v33 (0 : Int32) (gi s39 v33 11) s39).1), ((f_R_fails κ v33 (0 : Int32) (gi s39 v33 11) s39).2)))))) FU a0 (1 : Int32) (ui (ui st a0 19 0) a0 16 0)
theorem l_R_tested_12 {κ : Ko} {F : Int32 → AS → Prop} {v : Int32} {s' : AS} (k : F v s') {k_112 : Nat → AS → Option (Int32 × AS)} (hk_112 : ∀ (a0 : Nat) (st : AS), ly κ a0 = (12, 36) → k_112 a0 st = some (v, s') → V κ M_R_tested (RI F) 112 [some (.ref a0), none, none] [] st) : ∀ (d : Nat) (a0 : Nat) (x1 : Int32) (st : AS), ly κ a0 = (12, 36) → L_R_tested_12 κ k_112 d a0 x1 st = some (v, s') → V κ M_R_tested (RI F) 12 [some (.ref a0), some (.int x1), none] [] st := by
  intro d
  induction d with
  | zero =>
    intro a0 x1 st l_a0 h
    exact nn_some h
  | succ d ih =>
    intro a0 x1 st l_a0 h
    rw [L_R_tested_12] at h
    refine b_R_tested_12  (k1 := fun e18 => ?_) (k2 := fun e18 => ?_)
    · replace h := if_t e18 h
      exact hk_112 _ _ l_a0 h
    · replace h := if_f e18 h
      obtain ⟨v1, s2, h19, h⟩ := bnd2_some h
      refine b_R_tested_16 (l_a0 := l_a0) (k1 := t_R_fact l_a0 h19 ?_)
      refine b_R_tested_20  (k1 := fun e20 => ?_) (k2 := fun e20 => ?_)
      · replace h := if_f e20 h
        obtain ⟨s3, h21, h⟩ := bnd_some h
        refine b_R_tested_25 (l_a0 := l_a0) (k1 := t_R_closes l_a0 h21 ?_)
        obtain ⟨v4, s5, h22, h⟩ := bnd2_some h
        refine b_R_tested_29 (l_a0 := l_a0) (k1 := t_R_isWord l_a0 h22 ?_)
        obtain ⟨j10, hdj10, h⟩ := jn_some h
        have hj10 : ∀ (v11 : Int32) (s12 : AS), j10 v11 s12 = some (v, s') → V κ M_R_tested (RI F) 54 [some (.ref a0), none, none] [.int v11] s12 := by
          intro v11 s12 h
          rw [hdj10] at h
          refine b_R_tested_54  (k1 := fun e23 => ?_) (k2 := fun e23 => ?_)
          · replace h := if_t e23 h
            exact ih _ _ _ l_a0 h
          · replace h := if_f e23 h
            obtain ⟨v13, s14, h24, h⟩ := bnd2_some h
            refine b_R_tested_59 (l_a0 := l_a0) (k1 := t_R_isWord l_a0 h24 ?_)
            have K26 : V κ M_R_tested (RI F) 76 [some (.ref a0), some (.int v11), none] [.int (if v13 = 0 then (13 : Int32) else (12 : Int32) : Int32)] s14 := by
              obtain ⟨s15, h27, h⟩ := bnd_some h
              refine b_R_tested_76 (l_a0 := l_a0) (k1 := t_R_passWord l_a0 h27 ?_)
              refine b_R_tested_81  (k1 := t_R_prec  rfl ?_)
              obtain ⟨s16, h28, h⟩ := bnd_some h
              refine b_R_tested_86 (l_c0 := l_a0) (k1 := t_R_settles l_a0 h28 ?_)
              obtain ⟨h17, h⟩ := grd_some h
              refine b_R_tested_89 (l_a0 := l_a0) (b1 := h17) (k2 := ?_)
              exact ih _ _ _ l_a0 h
            refine b_R_tested_66  (k1 := fun e29 => ?_) (k2 := fun e29 => ?_)
            · refine b_R_tested_74  (k1 := ?_)
              exact (ite_t (P := fun z => V κ M_R_tested (RI F) 76 [some (.ref a0), some (.int v11), none] [.int z] s14) e29 K26)
            · refine b_R_tested_69  (k1 := ?_)
              exact (ite_f (P := fun z => V κ M_R_tested (RI F) 76 [some (.ref a0), some (.int v11), none] [.int z] s14) e29 K26)
        clear hdj10
        obtain ⟨j8, hdj8, h⟩ := jn_some h
        have hj8 : ∀ (s9 : AS), j8 s9 = some (v, s') → V κ M_R_tested (RI F) 49 [some (.ref a0), none, none] [] s9 := by
          intro s9 h
          rw [hdj8] at h
          refine b_R_tested_49  (k1 := ?_)
          exact hj10 _ _  h
        clear hdj8
        refine b_R_tested_36  (k1 := fun e30 => ?_) (k2 := fun e30 => ?_)
        · replace h := if_f e30 h
          exact hj8 _  h
        · replace h := if_t e30 h
          obtain ⟨v6, s7, h31, h⟩ := bnd2_some h
          refine b_R_tested_39 (l_a0 := l_a0) (k1 := t_R_isWord l_a0 h31 ?_)
          refine b_R_tested_46  (k1 := fun e32 => ?_) (k2 := fun e32 => ?_)
          · replace h := if_t e32 h
            refine b_R_tested_53  (k1 := ?_)
            exact hj10 _ _  h
          · replace h := if_f e32 h
            exact hj8 _  h
      · replace h := if_t e20 h
        exact b_R_tested_23  (k1 := lfI h k)
theorem t_R_tested {κ : Ko} {F : Int32 → AS → Prop} {a0 : Nat} {st : AS} {v : Int32} {s' : AS} (l_a0 : ly κ a0 = (12, 36)) (h : f_R_tested κ a0 st = some (v, s')) (k : F v s') : C κ M_R_tested [.ref a0] st (RI F) := by
  unfold f_R_tested at h
  refine e_R_tested ?_
  refine b_R_tested_0 (l_a0 := l_a0) (k1 := ?_)
  refine l_R_tested_12 k ?_ FU _ _ _ l_a0 h
  · intro v33 s35 l34 h
    obtain ⟨v36, h41, h⟩ := bnd_some h
    refine b_R_tested_112 (l_a0 := l34) (k1 := t_R_isInside l34 h41 ?_)
    refine b_R_tested_116  (k1 := fun e42 => ?_) (k2 := fun e42 => ?_)
    · replace h := if_t e42 h
      obtain ⟨s37, h43, h⟩ := bnd_some h
      refine b_R_tested_134 (l_a0 := l34) (k1 := t_R_settles l34 h43 ?_)
      exact b_R_tested_139  (k1 := lfI h k)
    · replace h := if_f e42 h
      obtain ⟨v38, s39, h44, h⟩ := bnd2_some h
      refine b_R_tested_119 (l_a0 := l34) (k1 := t_R_see l34 h44 ?_)
      refine b_R_tested_123 (l_a0 := l34) (k1 := t_R_fails l34 rfl ?_)
      obtain ⟨h40, h⟩ := grd_some h
      exact b_R_tested_133 (nz2 := h40) (k1 := lfI h k)
noncomputable def f_R_clauseOf (κ : Ko) (a0 : Nat) (x1 : Int32) (x2 : Int32) (st : AS) : Option (Int32 × AS) := bnd (f_R_passWord κ a0 st) (fun s1 => jn (fun (v9 : Int32) (s10 : AS) => jn (fun (s23 : AS) => grd (vp_in (gi s23 a0 14) 18) (grd (vp_in (v9 + 4) 1080) (grd (vp_in (gi (ui s23 (a0 + 5) (v9 + 4 : Int32).toNatClampNeg (gi s23 (a0 + 4) (gi s23 a0 14 : Int32).toNatClampNeg)) a0 14) 18) (grd (vp_in (gi (ui s23 (a0 + 5) (v9 + 4 : Int32).toNatClampNeg (gi s23 (a0 + 4) (gi s23 a0 14 : Int32).toNatClampNeg)) a0 14) 18) (some ((1 : Int32), ui (ui s23 (a0 + 5) (v9 + 4 : Int32).toNatClampNeg (gi s23 (a0 + 4) (gi s23 a0 14 : Int32).toNatClampNeg)) (a0 + 6) (gi (ui s23 (a0 + 5) (v9 + 4 : Int32).toNatClampNeg (gi s23 (a0 + 4) (gi s23 a0 14 : Int32).toNatClampNeg)) a0 14 : Int32).toNatClampNeg ((gi (ui s23 (a0 + 5) (v9 + 4 : Int32).toNatClampNeg (gi s23 (a0 + 4) (gi s23 a0 14 : Int32).toNatClampNeg)) (a0 + 6) (gi (ui s23 (a0 + 5) (v9 + 4 : Int32).toNatClampNeg (gi s23 (a0 + 4) (gi s23 a0 14 : Int32).toNatClampNeg)) a0 14 : Int32).toNatClampNeg) + 1))))))) fun j22 => jn (fun (s17 : AS) => grd (vp_in (gi s17 a0 14) 18) (grd (vp_in (v9 + 3) 1080) (bnd2 (f_R_tested κ a0 (ui s17 (a0 + 5) (v9 + 3 : Int32).toNatClampNeg (gi s17 (a0 + 4) (gi s17 a0 14 : Int32).toNatClampNeg))) (fun v20 s21 => if v20 = 0 then some ((0 : Int32), s21) else j22 s21)))) fun j16 => grd (vp_in (gi s10 a0 14) 18) (grd (vp_in (v9 + 2) 1080) (grd (vp_in (v9 + 3) 1080) (if x2 = 0 then j16 (ui (ui s10 (a0 + 5) (v9 + 2 : Int32).toNatClampNeg (gi s10 (a0 + 4) (gi s10 a0 14 : Int32).toNatClampNeg)) (a0 + 5) (v9 + 3 : Int32).toNatClampNeg ((-1))) else bnd2 (f_R_takesWord κ a0 (26982 : Int64) (ui (ui s10 (a0 + 5) (v9 + 2 : Int32).toNatClampNeg (gi s10 (a0 + 4) (gi s10 a0 14 : Int32).toNatClampNeg)) (a0 + 5) (v9 + 3 : Int32).toNatClampNeg ((-1)))) (fun v14 s15 => if v14 = 0 then j22 s15 else j16 s15))))) fun j8 => grd (vp_in (gi s1 a0 14) 18) (grd (vp_in (((60 : Int32) * (gi s1 a0 14)) + ((5 : Int32) * (gi s1 (a0 + 6) (gi s1 a0 14 : Int32).toNatClampNeg))) 1080) (grd (vp_in (gi (ui s1 (a0 + 5) (((60 : Int32) * (gi s1 a0 14)) + ((5 : Int32) * (gi s1 (a0 + 6) (gi s1 a0 14 : Int32).toNatClampNeg)) : Int32).toNatClampNeg x1) a0 14) 18) (grd (vp_in ((((60 : Int32) * (gi s1 a0 14)) + ((5 : Int32) * (gi s1 (a0 + 6) (gi s1 a0 14 : Int32).toNatClampNeg))) + 1) 1080) (if x2 = 0 then j8 (((60 : Int32) * (gi s1 a0 14)) + ((5 : Int32) * (gi s1 (a0 + 6) (gi s1 a0 14 : Int32).toNatClampNeg))) (ui (ui s1 (a0 + 5) (((60 : Int32) * (gi s1 a0 14)) + ((5 : Int32) * (gi s1 (a0 + 6) (gi s1 a0 14 : Int32).toNatClampNeg)) : Int32).toNatClampNeg x1) (a0 + 5) ((((60 : Int32) * (gi s1 a0 14)) + ((5 : Int32) * (gi s1 (a0 + 6) (gi s1 a0 14 : Int32).toNatClampNeg))) + 1 : Int32).toNatClampNeg (gi (ui s1 (a0 + 5) (((60 : Int32) * (gi s1 a0 14)) + ((5 : Int32) * (gi s1 (a0 + 6) (gi s1 a0 14 : Int32).toNatClampNeg)) : Int32).toNatClampNeg x1) (a0 + 4) (gi (ui s1 (a0 + 5) (((60 : Int32) * (gi s1 a0 14)) + ((5 : Int32) * (gi s1 (a0 + 6) (gi s1 a0 14 : Int32).toNatClampNeg)) : Int32).toNatClampNeg x1) a0 14 : Int32).toNatClampNeg)) else bnd2 (f_R_sum κ a0 (ui (ui s1 (a0 + 5) (((60 : Int32) * (gi s1 a0 14)) + ((5 : Int32) * (gi s1 (a0 + 6) (gi s1 a0 14 : Int32).toNatClampNeg)) : Int32).toNatClampNeg x1) (a0 + 5) ((((60 : Int32) * (gi s1 a0 14)) + ((5 : Int32) * (gi s1 (a0 + 6) (gi s1 a0 14 : Int32).toNatClampNeg))) + 1 : Int32).toNatClampNeg (gi (ui s1 (a0 + 5) (((60 : Int32) * (gi s1 a0 14)) + ((5 : Int32) * (gi s1 (a0 + 6) (gi s1 a0 14 : Int32).toNatClampNeg)) : Int32).toNatClampNeg x1) (a0 + 4) (gi (ui s1 (a0 + 5) (((60 : Int32) * (gi s1 a0 14)) + ((5 : Int32) * (gi s1 (a0 + 6) (gi s1 a0 14 : Int32).toNatClampNeg)) : Int32).toNatClampNeg x1) a0 14 : Int32).toNatClampNeg))) (fun v6 s7 => if v6 = 0 then some ((0 : Int32), s7) else j8 (((60 : Int32) * (gi s1 a0 14)) + ((5 : Int32) * (gi s1 (a0 + 6) (gi s1 a0 14 : Int32).toNatClampNeg))) s7))))))
theorem t_R_clauseOf {κ : Ko} {F : Int32 → AS → Prop} {a0 : Nat} {x1 : Int32} {x2 : Int32} {st : AS} {v : Int32} {s' : AS} (l_a0 : ly κ a0 = (12, 36)) (h : f_R_clauseOf κ a0 x1 x2 st = some (v, s')) (k : F v s') : C κ M_R_clauseOf [.ref a0, .int x1, .int x2] st (RI F) := by
  unfold f_R_clauseOf at h
  refine e_R_clauseOf ?_
  obtain ⟨s1, h28, h⟩ := bnd_some h
  refine b_R_clauseOf_0 (l_a0 := l_a0) (k1 := t_R_passWord l_a0 h28 ?_)
  obtain ⟨j8, hdj8, h⟩ := jn_some h
  have hj8 : ∀ (v9 : Int32) (s10 : AS), j8 v9 s10 = some (v, s') → V κ M_R_clauseOf (RI F) 61 [some (.ref a0), none, some (.int x2), some (.int v9)] [] s10 := by
    intro v9 s10 h
    rw [hdj8] at h
    obtain ⟨j22, hdj22, h⟩ := jn_some h
    have hj22 : ∀ (s23 : AS), j22 s23 = some (v, s') → V κ M_R_clauseOf (RI F) 127 [some (.ref a0), none, none, some (.int v9)] [] s23 := by
      intro s23 h
      rw [hdj22] at h
      obtain ⟨h24, h⟩ := grd_some h
      obtain ⟨h25, h⟩ := grd_some h
      obtain ⟨h26, h⟩ := grd_some h
      obtain ⟨h27, h⟩ := grd_some h
      exact b_R_clauseOf_127 (l_a0 := l_a0) (b1 := h24) (b2 := h25) (b3 := h26) (b4 := h27) (k5 := lfI h k)
    clear hdj22
    obtain ⟨j16, hdj16, h⟩ := jn_some h
    have hj16 : ∀ (s17 : AS), j16 s17 = some (v, s') → V κ M_R_clauseOf (RI F) 101 [some (.ref a0), none, none, some (.int v9)] [] s17 := by
      intro s17 h
      rw [hdj16] at h
      obtain ⟨h18, h⟩ := grd_some h
      obtain ⟨h19, h⟩ := grd_some h
      obtain ⟨v20, s21, h29, h⟩ := bnd2_some h
      refine b_R_clauseOf_101 (l_a0 := l_a0) (b1 := h18) (b2 := h19) (k3 := t_R_tested l_a0 h29 ?_)
      refine b_R_clauseOf_122  (k1 := fun e30 => ?_) (k2 := fun e30 => ?_)
      · replace h := if_f e30 h
        exact hj22 _  h
      · replace h := if_t e30 h
        exact b_R_clauseOf_125  (k1 := lfI h k)
    clear hdj16
    obtain ⟨h11, h⟩ := grd_some h
    obtain ⟨h12, h⟩ := grd_some h
    obtain ⟨h13, h⟩ := grd_some h
    refine b_R_clauseOf_61 (l_a0 := l_a0) (b1 := h11) (b2 := h12) (b3 := h13) (k4 := fun e31 => ?_) (k5 := fun e31 => ?_)
    · replace h := if_t e31 h
      exact hj16 _  h
    · replace h := if_f e31 h
      obtain ⟨v14, s15, h32, h⟩ := bnd2_some h
      refine b_R_clauseOf_91 (l_a0 := l_a0) (k1 := t_R_takesWord l_a0 h32 ?_)
      refine b_R_clauseOf_98  (k1 := fun e33 => ?_) (k2 := fun e33 => ?_)
      · replace h := if_t e33 h
        exact hj22 _  h
      · replace h := if_f e33 h
        exact hj16 _  h
  clear hdj8
  obtain ⟨h2, h⟩ := grd_some h
  obtain ⟨h3, h⟩ := grd_some h
  obtain ⟨h4, h⟩ := grd_some h
  obtain ⟨h5, h⟩ := grd_some h
  refine b_R_clauseOf_4 (l_a0 := l_a0) (b1 := h2) (b2 := h3) (b3 := h4) (b4 := h5) (k5 := fun e34 => ?_) (k6 := fun e34 => ?_)
  · replace h := if_t e34 h
    exact hj8 _ _  h
  · replace h := if_f e34 h
    obtain ⟨v6, s7, h35, h⟩ := bnd2_some h
    refine b_R_clauseOf_52 (l_a0 := l_a0) (k1 := t_R_sum l_a0 h35 ?_)
    refine b_R_clauseOf_56  (k1 := fun e36 => ?_) (k2 := fun e36 => ?_)
    · replace h := if_f e36 h
      exact hj8 _ _  h
    · replace h := if_t e36 h
      exact b_R_clauseOf_59  (k1 := lfI h k)
noncomputable def f_R_acted (κ : Ko) (a0 : Nat) (x1 : Int32) (st : AS) : Option (Int32 × AS) := bnd (f_R_passWord κ a0 st) (fun s1 => grd (vp_in (gi s1 a0 14) 18) (grd (vp_in (((60 : Int32) * (gi s1 a0 14)) + ((5 : Int32) * (gi s1 (a0 + 6) (gi s1 a0 14 : Int32).toNatClampNeg))) 1080) (grd (vp_in ((((60 : Int32) * (gi s1 a0 14)) + ((5 : Int32) * (gi s1 (a0 + 6) (gi s1 a0 14 : Int32).toNatClampNeg))) + 1) 1080) (grd (vp_in ((((60 : Int32) * (gi s1 a0 14)) + ((5 : Int32) * (gi s1 (a0 + 6) (gi s1 a0 14 : Int32).toNatClampNeg))) + 2) 1080) (grd (vp_in (gi (ui (ui (ui s1 (a0 + 5) (((60 : Int32) * (gi s1 a0 14)) + ((5 : Int32) * (gi s1 (a0 + 6) (gi s1 a0 14 : Int32).toNatClampNeg)) : Int32).toNatClampNeg x1) (a0 + 5) ((((60 : Int32) * (gi s1 a0 14)) + ((5 : Int32) * (gi s1 (a0 + 6) (gi s1 a0 14 : Int32).toNatClampNeg))) + 1 : Int32).toNatClampNeg 0) (a0 + 5) ((((60 : Int32) * (gi s1 a0 14)) + ((5 : Int32) * (gi s1 (a0 + 6) (gi s1 a0 14 : Int32).toNatClampNeg))) + 2 : Int32).toNatClampNeg 1) a0 14) 18) (grd (vp_in (gi (ui (ui (ui s1 (a0 + 5) (((60 : Int32) * (gi s1 a0 14)) + ((5 : Int32) * (gi s1 (a0 + 6) (gi s1 a0 14 : Int32).toNatClampNeg)) : Int32).toNatClampNeg x1) (a0 + 5) ((((60 : Int32) * (gi s1 a0 14)) + ((5 : Int32) * (gi s1 (a0 + 6) (gi s1 a0 14 : Int32).toNatClampNeg))) + 1 : Int32).toNatClampNeg 0) (a0 + 5) ((((60 : Int32) * (gi s1 a0 14)) + ((5 : Int32) * (gi s1 (a0 + 6) (gi s1 a0 14 : Int32).toNatClampNeg))) + 2 : Int32).toNatClampNeg 1) a0 14) 18) (if x1 = 2 then some ((1 : Int32), (ui (ui (ui (ui s1 (a0 + 5) (((60 : Int32) * (gi s1 a0 14)) + ((5 : Int32) * (gi s1 (a0 + 6) (gi s1 a0 14 : Int32).toNatClampNeg)) : Int32).toNatClampNeg x1) (a0 + 5) ((((60 : Int32) * (gi s1 a0 14)) + ((5 : Int32) * (gi s1 (a0 + 6) (gi s1 a0 14 : Int32).toNatClampNeg))) + 1 : Int32).toNatClampNeg 0) (a0 + 5) ((((60 : Int32) * (gi s1 a0 14)) + ((5 : Int32) * (gi s1 (a0 + 6) (gi s1 a0 14 : Int32).toNatClampNeg))) + 2 : Int32).toNatClampNeg 1) (a0 + 6) (gi (ui (ui (ui s1 (a0 + 5) (((60 : Int32) * (gi s1 a0 14)) + ((5 : Int32) * (gi s1 (a0 + 6) (gi s1 a0 14 : Int32).toNatClampNeg)) : Int32).toNatClampNeg x1) (a0 + 5) ((((60 : Int32) * (gi s1 a0 14)) + ((5 : Int32) * (gi s1 (a0 + 6) (gi s1 a0 14 : Int32).toNatClampNeg))) + 1 : Int32).toNatClampNeg 0) (a0 + 5) ((((60 : Int32) * (gi s1 a0 14)) + ((5 : Int32) * (gi s1 (a0 + 6) (gi s1 a0 14 : Int32).toNatClampNeg))) + 2 : Int32).toNatClampNeg 1) a0 14 : Int32).toNatClampNeg ((gi (ui (ui (ui s1 (a0 + 5) (((60 : Int32) * (gi s1 a0 14)) + ((5 : Int32) * (gi s1 (a0 + 6) (gi s1 a0 14 : Int32).toNatClampNeg)) : Int32).toNatClampNeg x1) (a0 + 5) ((((60 : Int32) * (gi s1 a0 14)) + ((5 : Int32) * (gi s1 (a0 + 6) (gi s1 a0 14 : Int32).toNatClampNeg))) + 1 : Int32).toNatClampNeg 0) (a0 + 5) ((((60 : Int32) * (gi s1 a0 14)) + ((5 : Int32) * (gi s1 (a0 + 6) (gi s1 a0 14 : Int32).toNatClampNeg))) + 2 : Int32).toNatClampNeg 1) (a0 + 6) (gi (ui (ui (ui s1 (a0 + 5) (((60 : Int32) * (gi s1 a0 14)) + ((5 : Int32) * (gi s1 (a0 + 6) (gi s1 a0 14 : Int32).toNatClampNeg)) : Int32).toNatClampNeg x1) (a0 + 5) ((((60 : Int32) * (gi s1 a0 14)) + ((5 : Int32) * (gi s1 (a0 + 6) (gi s1 a0 14 : Int32).toNatClampNeg))) + 1 : Int32).toNatClampNeg 0) (a0 + 5) ((((60 : Int32) * (gi s1 a0 14)) + ((5 : Int32) * (gi s1 (a0 + 6) (gi s1 a0 14 : Int32).toNatClampNeg))) + 2 : Int32).toNatClampNeg 1) a0 14 : Int32).toNatClampNeg) + 1))) else if x1 = 0 then bnd2 (f_R_numberHere κ a0 (1 : Int32) (99 : Int32) (ui (ui (ui (ui s1 (a0 + 5) (((60 : Int32) * (gi s1 a0 14)) + ((5 : Int32) * (gi s1 (a0 + 6) (gi s1 a0 14 : Int32).toNatClampNeg)) : Int32).toNatClampNeg x1) (a0 + 5) ((((60 : Int32) * (gi s1 a0 14)) + ((5 : Int32) * (gi s1 (a0 + 6) (gi s1 a0 14 : Int32).toNatClampNeg))) + 1 : Int32).toNatClampNeg 0) (a0 + 5) ((((60 : Int32) * (gi s1 a0 14)) + ((5 : Int32) * (gi s1 (a0 + 6) (gi s1 a0 14 : Int32).toNatClampNeg))) + 2 : Int32).toNatClampNeg 1) (a0 + 6) (gi (ui (ui (ui s1 (a0 + 5) (((60 : Int32) * (gi s1 a0 14)) + ((5 : Int32) * (gi s1 (a0 + 6) (gi s1 a0 14 : Int32).toNatClampNeg)) : Int32).toNatClampNeg x1) (a0 + 5) ((((60 : Int32) * (gi s1 a0 14)) + ((5 : Int32) * (gi s1 (a0 + 6) (gi s1 a0 14 : Int32).toNatClampNeg))) + 1 : Int32).toNatClampNeg 0) (a0 + 5) ((((60 : Int32) * (gi s1 a0 14)) + ((5 : Int32) * (gi s1 (a0 + 6) (gi s1 a0 14 : Int32).toNatClampNeg))) + 2 : Int32).toNatClampNeg 1) a0 14 : Int32).toNatClampNeg ((gi (ui (ui (ui s1 (a0 + 5) (((60 : Int32) * (gi s1 a0 14)) + ((5 : Int32) * (gi s1 (a0 + 6) (gi s1 a0 14 : Int32).toNatClampNeg)) : Int32).toNatClampNeg x1) (a0 + 5) ((((60 : Int32) * (gi s1 a0 14)) + ((5 : Int32) * (gi s1 (a0 + 6) (gi s1 a0 14 : Int32).toNatClampNeg))) + 1 : Int32).toNatClampNeg 0) (a0 + 5) ((((60 : Int32) * (gi s1 a0 14)) + ((5 : Int32) * (gi s1 (a0 + 6) (gi s1 a0 14 : Int32).toNatClampNeg))) + 2 : Int32).toNatClampNeg 1) (a0 + 6) (gi (ui (ui (ui s1 (a0 + 5) (((60 : Int32) * (gi s1 a0 14)) + ((5 : Int32) * (gi s1 (a0 + 6) (gi s1 a0 14 : Int32).toNatClampNeg)) : Int32).toNatClampNeg x1) (a0 + 5) ((((60 : Int32) * (gi s1 a0 14)) + ((5 : Int32) * (gi s1 (a0 + 6) (gi s1 a0 14 : Int32).toNatClampNeg))) + 1 : Int32).toNatClampNeg 0) (a0 + 5) ((((60 : Int32) * (gi s1 a0 14)) + ((5 : Int32) * (gi s1 (a0 + 6) (gi s1 a0 14 : Int32).toNatClampNeg))) + 2 : Int32).toNatClampNeg 1) a0 14 : Int32).toNatClampNeg) + 1))) (fun v22 s23 => if v22 = 0 then some ((0 : Int32), s23) else grd (vp_in ((((60 : Int32) * (gi s1 a0 14)) + ((5 : Int32) * (gi s1 (a0 + 6) (gi s1 a0 14 : Int32).toNatClampNeg))) + 1) 1080) (bnd2 (f_R_takesWord κ a0 (499984983411 : Int64) (ui s23 (a0 + 5) ((((60 : Int32) * (gi s1 a0 14)) + ((5 : Int32) * (gi s1 (a0 + 6) (gi s1 a0 14 : Int32).toNatClampNeg))) + 1 : Int32).toNatClampNeg (gi s23 a0 13))) (fun v25 s26 => if v25 = 0 then some ((1 : Int32), s26) else bnd2 (f_R_numberHere κ a0 (1 : Int32) (60 : Int32) s26) (fun v27 s28 => if v27 = 0 then some ((0 : Int32), s28) else grd (vp_in ((((60 : Int32) * (gi s1 a0 14)) + ((5 : Int32) * (gi s1 (a0 + 6) (gi s1 a0 14 : Int32).toNatClampNeg))) + 2) 1080) (some ((1 : Int32), ui s28 (a0 + 5) ((((60 : Int32) * (gi s1 a0 14)) + ((5 : Int32) * (gi s1 (a0 + 6) (gi s1 a0 14 : Int32).toNatClampNeg))) + 2 : Int32).toNatClampNeg (gi s28 a0 13))))))) else bnd2 (f_R_isWord κ a0 (33056208972114036 : Int64) (ui (ui (ui (ui s1 (a0 + 5) (((60 : Int32) * (gi s1 a0 14)) + ((5 : Int32) * (gi s1 (a0 + 6) (gi s1 a0 14 : Int32).toNatClampNeg)) : Int32).toNatClampNeg x1) (a0 + 5) ((((60 : Int32) * (gi s1 a0 14)) + ((5 : Int32) * (gi s1 (a0 + 6) (gi s1 a0 14 : Int32).toNatClampNeg))) + 1 : Int32).toNatClampNeg 0) (a0 + 5) ((((60 : Int32) * (gi s1 a0 14)) + ((5 : Int32) * (gi s1 (a0 + 6) (gi s1 a0 14 : Int32).toNatClampNeg))) + 2 : Int32).toNatClampNeg 1) (a0 + 6) (gi (ui (ui (ui s1 (a0 + 5) (((60 : Int32) * (gi s1 a0 14)) + ((5 : Int32) * (gi s1 (a0 + 6) (gi s1 a0 14 : Int32).toNatClampNeg)) : Int32).toNatClampNeg x1) (a0 + 5) ((((60 : Int32) * (gi s1 a0 14)) + ((5 : Int32) * (gi s1 (a0 + 6) (gi s1 a0 14 : Int32).toNatClampNeg))) + 1 : Int32).toNatClampNeg 0) (a0 + 5) ((((60 : Int32) * (gi s1 a0 14)) + ((5 : Int32) * (gi s1 (a0 + 6) (gi s1 a0 14 : Int32).toNatClampNeg))) + 2 : Int32).toNatClampNeg 1) a0 14 : Int32).toNatClampNeg ((gi (ui (ui (ui s1 (a0 + 5) (((60 : Int32) * (gi s1 a0 14)) + ((5 : Int32) * (gi s1 (a0 + 6) (gi s1 a0 14 : Int32).toNatClampNeg)) : Int32).toNatClampNeg x1) (a0 + 5) ((((60 : Int32) * (gi s1 a0 14)) + ((5 : Int32) * (gi s1 (a0 + 6) (gi s1 a0 14 : Int32).toNatClampNeg))) + 1 : Int32).toNatClampNeg 0) (a0 + 5) ((((60 : Int32) * (gi s1 a0 14)) + ((5 : Int32) * (gi s1 (a0 + 6) (gi s1 a0 14 : Int32).toNatClampNeg))) + 2 : Int32).toNatClampNeg 1) (a0 + 6) (gi (ui (ui (ui s1 (a0 + 5) (((60 : Int32) * (gi s1 a0 14)) + ((5 : Int32) * (gi s1 (a0 + 6) (gi s1 a0 14 : Int32).toNatClampNeg)) : Int32).toNatClampNeg x1) (a0 + 5) ((((60 : Int32) * (gi s1 a0 14)) + ((5 : Int32) * (gi s1 (a0 + 6) (gi s1 a0 14 : Int32).toNatClampNeg))) + 1 : Int32).toNatClampNeg 0) (a0 + 5) ((((60 : Int32) * (gi s1 a0 14)) + ((5 : Int32) * (gi s1 (a0 + 6) (gi s1 a0 14 : Int32).toNatClampNeg))) + 2 : Int32).toNatClampNeg 1) a0 14 : Int32).toNatClampNeg) + 1))) (fun v8 s9 => jn (fun (s14 : AS) => bnd2 (f_R_isWord κ a0 (33056208972114036 : Int64) s14) (fun v15 s16 => grd (vp_in ((((60 : Int32) * (gi s1 a0 14)) + ((5 : Int32) * (gi s1 (a0 + 6) (gi s1 a0 14 : Int32).toNatClampNeg))) + 1) 1080) (bnd (f_R_passWord κ a0 (ui s16 (a0 + 5) (((((60 : Int32) * (gi s1 a0 14)) + ((5 : Int32) * (gi s1 (a0 + 6) (gi s1 a0 14 : Int32).toNatClampNeg))) + 1) : Int32).toNatClampNeg (if v15 = 0 then (1 : Int32) else (0 : Int32) : Int32))) (fun s18 => bnd2 (f_R_numberHere κ a0 (1 : Int32) (199 : Int32) s18) (fun v19 s20 => if v19 = 0 then some ((0 : Int32), s20) else grd (vp_in ((((60 : Int32) * (gi s1 a0 14)) + ((5 : Int32) * (gi s1 (a0 + 6) (gi s1 a0 14 : Int32).toNatClampNeg))) + 2) 1080) (some ((1 : Int32), ui s20 (a0 + 5) ((((60 : Int32) * (gi s1 a0 14)) + ((5 : Int32) * (gi s1 (a0 + 6) (gi s1 a0 14 : Int32).toNatClampNeg))) + 2 : Int32).toNatClampNeg (gi s20 a0 13)))))))) fun j13 => if v8 = 0 then bnd2 (f_R_isWord κ a0 (465558725996 : Int64) s9) (fun v10 s11 => if v10 = 0 then grd (((f_R_fails κ a0 (0 : Int32) (gi s11 a0 11) s11).1) = 0 ∨ ((f_R_fails κ a0 (0 : Int32) (gi s11 a0 11) s11).1) = 1) (some (((f_R_fails κ a0 (0 : Int32) (gi s11 a0 11) s11).1), ((f_R_fails κ a0 (0 : Int32) (gi s11 a0 11) s11).2))) else j13 s11) else j13 s9))))))))
theorem t_R_acted {κ : Ko} {F : Int32 → AS → Prop} {a0 : Nat} {x1 : Int32} {st : AS} {v : Int32} {s' : AS} (l_a0 : ly κ a0 = (12, 36)) (h : f_R_acted κ a0 x1 st = some (v, s')) (k : F v s') : C κ M_R_acted [.ref a0, .int x1] st (RI F) := by
  unfold f_R_acted at h
  refine e_R_acted ?_
  obtain ⟨s1, h30, h⟩ := bnd_some h
  refine b_R_acted_0 (l_a0 := l_a0) (k1 := t_R_passWord l_a0 h30 ?_)
  obtain ⟨h2, h⟩ := grd_some h
  obtain ⟨h3, h⟩ := grd_some h
  obtain ⟨h4, h⟩ := grd_some h
  obtain ⟨h5, h⟩ := grd_some h
  obtain ⟨h6, h⟩ := grd_some h
  obtain ⟨h7, h⟩ := grd_some h
  refine b_R_acted_4 (l_a0 := l_a0) (b1 := h2) (b2 := h3) (b3 := h4) (b4 := h5) (b5 := h6) (b6 := h7) (k7 := fun e31 => ?_) (k8 := fun e31 => ?_)
  · replace h := if_f e31 h
    refine b_R_acted_69  (k1 := fun e32 => ?_) (k2 := fun e32 => ?_)
    · replace h := if_f e32 h
      obtain ⟨v8, s9, h33, h⟩ := bnd2_some h
      refine b_R_acted_135 (l_a0 := l_a0) (k1 := t_R_isWord l_a0 h33 ?_)
      obtain ⟨j13, hdj13, h⟩ := jn_some h
      have hj13 : ∀ (s14 : AS), j13 s14 = some (v, s') → V κ M_R_acted (RI F) 165 [some (.ref a0), none, some (.int (((60 : Int32) * (gi s1 a0 14)) + ((5 : Int32) * (gi s1 (a0 + 6) (gi s1 a0 14 : Int32).toNatClampNeg))))] [] s14 := by
        intro s14 h
        rw [hdj13] at h
        obtain ⟨v15, s16, h34, h⟩ := bnd2_some h
        refine b_R_acted_165 (l_a0 := l_a0) (k1 := t_R_isWord l_a0 h34 ?_)
        have K36 : V κ M_R_acted (RI F) 187 [some (.ref a0), none, some (.int (((60 : Int32) * (gi s1 a0 14)) + ((5 : Int32) * (gi s1 (a0 + 6) (gi s1 a0 14 : Int32).toNatClampNeg))))] [.int (if v15 = 0 then (1 : Int32) else (0 : Int32) : Int32), .int ((((60 : Int32) * (gi s1 a0 14)) + ((5 : Int32) * (gi s1 (a0 + 6) (gi s1 a0 14 : Int32).toNatClampNeg))) + 1), .ref (a0 + 5)] s16 := by
          obtain ⟨h17, h⟩ := grd_some h
          obtain ⟨s18, h37, h⟩ := bnd_some h
          refine b_R_acted_187 (l_c0 := (co12 5 50 1080 rfl l_a0)) (b1 := h17) (l_a0 := l_a0) (k2 := t_R_passWord l_a0 h37 ?_)
          obtain ⟨v19, s20, h38, h⟩ := bnd2_some h
          refine b_R_acted_192 (l_a0 := l_a0) (k1 := t_R_numberHere l_a0 h38 ?_)
          refine b_R_acted_200  (k1 := fun e39 => ?_) (k2 := fun e39 => ?_)
          · replace h := if_f e39 h
            obtain ⟨h21, h⟩ := grd_some h
            exact b_R_acted_205 (l_a0 := l_a0) (b1 := h21) (k2 := lfI h k)
          · replace h := if_t e39 h
            exact b_R_acted_203  (k1 := lfI h k)
        refine b_R_acted_179  (k1 := fun e40 => ?_) (k2 := fun e40 => ?_)
        · refine b_R_acted_186  (k1 := ?_)
          exact (ite_t (P := fun z => V κ M_R_acted (RI F) 187 [some (.ref a0), none, some (.int (((60 : Int32) * (gi s1 a0 14)) + ((5 : Int32) * (gi s1 (a0 + 6) (gi s1 a0 14 : Int32).toNatClampNeg))))] [.int z, .int ((((60 : Int32) * (gi s1 a0 14)) + ((5 : Int32) * (gi s1 (a0 + 6) (gi s1 a0 14 : Int32).toNatClampNeg))) + 1), .ref (a0 + 5)] s16) e40 K36)
        · refine b_R_acted_182  (k1 := ?_)
          exact (ite_f (P := fun z => V κ M_R_acted (RI F) 187 [some (.ref a0), none, some (.int (((60 : Int32) * (gi s1 a0 14)) + ((5 : Int32) * (gi s1 (a0 + 6) (gi s1 a0 14 : Int32).toNatClampNeg))))] [.int z, .int ((((60 : Int32) * (gi s1 a0 14)) + ((5 : Int32) * (gi s1 (a0 + 6) (gi s1 a0 14 : Int32).toNatClampNeg))) + 1), .ref (a0 + 5)] s16) e40 K36)
      clear hdj13
      refine b_R_acted_142  (k1 := fun e41 => ?_) (k2 := fun e41 => ?_)
      · replace h := if_f e41 h
        exact hj13 _  h
      · replace h := if_t e41 h
        obtain ⟨v10, s11, h42, h⟩ := bnd2_some h
        refine b_R_acted_145 (l_a0 := l_a0) (k1 := t_R_isWord l_a0 h42 ?_)
        refine b_R_acted_152  (k1 := fun e43 => ?_) (k2 := fun e43 => ?_)
        · replace h := if_f e43 h
          exact hj13 _  h
        · replace h := if_t e43 h
          refine b_R_acted_155 (l_a0 := l_a0) (k1 := t_R_fails l_a0 rfl ?_)
          obtain ⟨h12, h⟩ := grd_some h
          exact b_R_acted_164 (nz2 := h12) (k1 := lfI h k)
    · replace h := if_t e32 h
      obtain ⟨v22, s23, h44, h⟩ := bnd2_some h
      refine b_R_acted_73 (l_a0 := l_a0) (k1 := t_R_numberHere l_a0 h44 ?_)
      refine b_R_acted_80  (k1 := fun e45 => ?_) (k2 := fun e45 => ?_)
      · replace h := if_f e45 h
        obtain ⟨h24, h⟩ := grd_some h
        obtain ⟨v25, s26, h46, h⟩ := bnd2_some h
        refine b_R_acted_85 (l_a0 := l_a0) (b1 := h24) (k2 := t_R_takesWord l_a0 h46 ?_)
        refine b_R_acted_104  (k1 := fun e47 => ?_) (k2 := fun e47 => ?_)
        · replace h := if_f e47 h
          obtain ⟨v27, s28, h48, h⟩ := bnd2_some h
          refine b_R_acted_109 (l_a0 := l_a0) (k1 := t_R_numberHere l_a0 h48 ?_)
          refine b_R_acted_116  (k1 := fun e49 => ?_) (k2 := fun e49 => ?_)
          · replace h := if_f e49 h
            obtain ⟨h29, h⟩ := grd_some h
            exact b_R_acted_121 (l_a0 := l_a0) (b1 := h29) (k2 := lfI h k)
          · replace h := if_t e49 h
            exact b_R_acted_119  (k1 := lfI h k)
        · replace h := if_t e47 h
          exact b_R_acted_107  (k1 := lfI h k)
      · replace h := if_t e45 h
        exact b_R_acted_83  (k1 := lfI h k)
  · replace h := if_t e31 h
    exact b_R_acted_67  (k1 := lfI h k)
noncomputable def f_R_clauseHere (κ : Ko) (a0 : Nat) (st : AS) : Option (Int32 × AS) := bnd2 (f_R_see κ a0 st) (fun v1 s2 => jn (fun (v26 : Int32) (s27 : AS) => if v26 = 0 then grd (((f_R_fails κ a0 (0 : Int32) (gi s2 a0 11) s27).1) = 0 ∨ ((f_R_fails κ a0 (0 : Int32) (gi s2 a0 11) s27).1) = 1) (some (((f_R_fails κ a0 (0 : Int32) (gi s2 a0 11) s27).1), ((f_R_fails κ a0 (0 : Int32) (gi s2 a0 11) s27).2))) else if (gi s27 a0 17) = 12 then grd (((f_R_fails κ a0 (4 : Int32) (gi s2 a0 11) s27).1) = 0 ∨ ((f_R_fails κ a0 (4 : Int32) (gi s2 a0 11) s27).1) = 1) (some (((f_R_fails κ a0 (4 : Int32) (gi s2 a0 11) s27).1), ((f_R_fails κ a0 (4 : Int32) (gi s2 a0 11) s27).2))) else if ((gi s2 a0 14) / 6) = 0 then bnd2 (f_R_isWord κ a0 (1936680564 : Int64) (ui s27 a0 17 ((gi s27 a0 17) + 1))) (fun v43 s44 => if v43 = 0 then bnd2 (f_R_isWord κ a0 (108243466677107 : Int64) s44) (fun v45 s46 => bnd2 (f_R_clauseOf κ a0 (if v45 = 0 then (1 : Int32) else (0 : Int32) : Int32) (1 : Int32) s46) (fun v47 s48 => grd (v47 = 0 ∨ v47 = 1) (some (v47, s48)))) else bnd2 (f_R_softened κ a0 (gi s2 a0 11) s44) (fun v50 s51 => grd (v50 = 0 ∨ v50 = 1) (some (v50, s51)))) else if ((gi s2 a0 14) / 6) = 1 then bnd2 (f_R_isWord κ a0 (482955588467 : Int64) (ui s27 a0 17 ((gi s27 a0 17) + 1))) (fun v33 s34 => jn (fun (v38 : Int32) (s39 : AS) => bnd2 (f_R_acted κ a0 v38 s39) (fun v40 s41 => grd (v40 = 0 ∨ v40 = 1) (some (v40, s41)))) fun j37 => if v33 = 0 then bnd2 (f_R_isWord κ a0 (1718578276 : Int64) s34) (fun v35 s36 => j37 (if v35 = 0 then (2 : Int32) else (1 : Int32) : Int32) s36) else j37 (0 : Int32) s34) else bnd2 (f_R_isWord κ a0 (7562597 : Int64) (ui s27 a0 17 ((gi s27 a0 17) + 1))) (fun v28 s29 => bnd2 (f_R_clauseOf κ a0 (if v28 = 0 then (1 : Int32) else (0 : Int32) : Int32) (0 : Int32) s29) (fun v30 s31 => grd (v30 = 0 ∨ v30 = 1) (some (v30, s31))))) fun j25 => if ((gi s2 a0 14) / 6) = 0 then bnd2 (f_R_isWord κ a0 (108243466677107 : Int64) s2) (fun v17 s18 => jn (fun (s24 : AS) => j25 (1 : Int32) s24) fun j23 => if v17 = 0 then bnd2 (f_R_isWord κ a0 (24948 : Int64) s18) (fun v19 s20 => if v19 = 0 then bnd2 (f_R_isWord κ a0 (1936680564 : Int64) s20) (fun v21 s22 => if v21 = 0 then j25 (0 : Int32) s22 else j23 s22) else j23 s20) else j23 s18) else if ((gi s2 a0 14) / 6) = 1 then bnd2 (f_R_isWord κ a0 (482955588467 : Int64) s2) (fun v9 s10 => jn (fun (s16 : AS) => j25 (1 : Int32) s16) fun j15 => if v9 = 0 then bnd2 (f_R_isWord κ a0 (1718578276 : Int64) s10) (fun v11 s12 => if v11 = 0 then bnd2 (f_R_isWord κ a0 (1953854062 : Int64) s12) (fun v13 s14 => if v13 = 0 then j25 (0 : Int32) s14 else j15 s14) else j15 s12) else j15 s10) else bnd2 (f_R_isWord κ a0 (7562597 : Int64) s2) (fun v3 s4 => jn (fun (s8 : AS) => j25 (1 : Int32) s8) fun j7 => if v3 = 0 then bnd2 (f_R_isWord κ a0 (1835627379 : Int64) s4) (fun v5 s6 => if v5 = 0 then j25 (0 : Int32) s6 else j7 s6) else j7 s4))
theorem t_R_clauseHere {κ : Ko} {F : Int32 → AS → Prop} {a0 : Nat} {st : AS} {v : Int32} {s' : AS} (l_a0 : ly κ a0 = (12, 36)) (h : f_R_clauseHere κ a0 st = some (v, s')) (k : F v s') : C κ M_R_clauseHere [.ref a0] st (RI F) := by
  unfold f_R_clauseHere at h
  refine e_R_clauseHere ?_
  obtain ⟨v1, s2, h55, h⟩ := bnd2_some h
  refine b_R_clauseHere_0 (l_a0 := l_a0) (k1 := t_R_see l_a0 h55 ?_)
  obtain ⟨j25, hdj25, h⟩ := jn_some h
  have hj25 : ∀ (v26 : Int32) (s27 : AS), j25 v26 s27 = some (v, s') → V κ M_R_clauseHere (RI F) 128 [some (.ref a0), some (.int (gi s2 a0 11)), some (.int ((gi s2 a0 14) / 6)), none] [.int v26] s27 := by
    intro v26 s27 h
    rw [hdj25] at h
    refine b_R_clauseHere_128  (k1 := fun e56 => ?_) (k2 := fun e56 => ?_)
    · replace h := if_f e56 h
      refine b_R_clauseHere_140 (l_a0 := l_a0) (k1 := fun e57 => ?_) (k2 := fun e57 => ?_)
      · replace h := if_f e57 h
        refine b_R_clauseHere_156 (l_a0 := l_a0) (k1 := fun e58 => ?_) (k2 := fun e58 => ?_)
        · replace h := if_f e58 h
          refine b_R_clauseHere_209  (k1 := fun e59 => ?_) (k2 := fun e59 => ?_)
          · replace h := if_f e59 h
            obtain ⟨v28, s29, h60, h⟩ := bnd2_some h
            refine b_R_clauseHere_250 (l_a0 := l_a0) (k1 := t_R_isWord l_a0 h60 ?_)
            have K62 : V κ M_R_clauseHere (RI F) 266 [none, none, none, none] [.int (if v28 = 0 then (1 : Int32) else (0 : Int32) : Int32), .ref a0] s29 := by
              obtain ⟨v30, s31, h63, h⟩ := bnd2_some h
              refine b_R_clauseHere_266 (l_c0 := l_a0) (k1 := t_R_clauseOf l_a0 h63 ?_)
              obtain ⟨h32, h⟩ := grd_some h
              exact b_R_clauseHere_270 (nz2 := h32) (k1 := lfI h k)
            refine b_R_clauseHere_258  (k1 := fun e64 => ?_) (k2 := fun e64 => ?_)
            · refine b_R_clauseHere_265  (k1 := ?_)
              exact (ite_t (P := fun z => V κ M_R_clauseHere (RI F) 266 [none, none, none, none] [.int z, .ref a0] s29) e64 K62)
            · refine b_R_clauseHere_261  (k1 := ?_)
              exact (ite_f (P := fun z => V κ M_R_clauseHere (RI F) 266 [none, none, none, none] [.int z, .ref a0] s29) e64 K62)
          · replace h := if_t e59 h
            obtain ⟨v33, s34, h65, h⟩ := bnd2_some h
            refine b_R_clauseHere_214 (l_a0 := l_a0) (k1 := t_R_isWord l_a0 h65 ?_)
            obtain ⟨j37, hdj37, h⟩ := jn_some h
            have hj37 : ∀ (v38 : Int32) (s39 : AS), j37 v38 s39 = some (v, s') → V κ M_R_clauseHere (RI F) 244 [none, none, none, none] [.int v38, .ref a0] s39 := by
              intro v38 s39 h
              rw [hdj37] at h
              obtain ⟨v40, s41, h66, h⟩ := bnd2_some h
              refine b_R_clauseHere_244 (l_c0 := l_a0) (k1 := t_R_acted l_a0 h66 ?_)
              obtain ⟨h42, h⟩ := grd_some h
              exact b_R_clauseHere_247 (nz2 := h42) (k1 := lfI h k)
            clear hdj37
            refine b_R_clauseHere_222  (k1 := fun e67 => ?_) (k2 := fun e67 => ?_)
            · replace h := if_t e67 h
              obtain ⟨v35, s36, h68, h⟩ := bnd2_some h
              refine b_R_clauseHere_229 (l_a0 := l_a0) (k1 := t_R_isWord l_a0 h68 ?_)
              have K70 : V κ M_R_clauseHere (RI F) 244 [none, none, none, none] [.int (if v35 = 0 then (2 : Int32) else (1 : Int32) : Int32), .ref a0] s36 := by
                exact hj37 _ _  h
              refine b_R_clauseHere_236  (k1 := fun e71 => ?_) (k2 := fun e71 => ?_)
              · refine b_R_clauseHere_243  (k1 := ?_)
                exact (ite_t (P := fun z => V κ M_R_clauseHere (RI F) 244 [none, none, none, none] [.int z, .ref a0] s36) e71 K70)
              · refine b_R_clauseHere_239  (k1 := ?_)
                exact (ite_f (P := fun z => V κ M_R_clauseHere (RI F) 244 [none, none, none, none] [.int z, .ref a0] s36) e71 K70)
            · replace h := if_f e67 h
              refine b_R_clauseHere_225  (k1 := ?_)
              exact hj37 _ _  h
        · replace h := if_t e58 h
          obtain ⟨v43, s44, h72, h⟩ := bnd2_some h
          refine b_R_clauseHere_170 (l_a0 := l_a0) (k1 := t_R_isWord l_a0 h72 ?_)
          refine b_R_clauseHere_177  (k1 := fun e73 => ?_) (k2 := fun e73 => ?_)
          · replace h := if_t e73 h
            obtain ⟨v45, s46, h74, h⟩ := bnd2_some h
            refine b_R_clauseHere_188 (l_a0 := l_a0) (k1 := t_R_isWord l_a0 h74 ?_)
            have K76 : V κ M_R_clauseHere (RI F) 204 [none, none, none, none] [.int (if v45 = 0 then (1 : Int32) else (0 : Int32) : Int32), .ref a0] s46 := by
              obtain ⟨v47, s48, h77, h⟩ := bnd2_some h
              refine b_R_clauseHere_204 (l_c0 := l_a0) (k1 := t_R_clauseOf l_a0 h77 ?_)
              obtain ⟨h49, h⟩ := grd_some h
              exact b_R_clauseHere_208 (nz2 := h49) (k1 := lfI h k)
            refine b_R_clauseHere_196  (k1 := fun e78 => ?_) (k2 := fun e78 => ?_)
            · refine b_R_clauseHere_203  (k1 := ?_)
              exact (ite_t (P := fun z => V κ M_R_clauseHere (RI F) 204 [none, none, none, none] [.int z, .ref a0] s46) e78 K76)
            · refine b_R_clauseHere_199  (k1 := ?_)
              exact (ite_f (P := fun z => V κ M_R_clauseHere (RI F) 204 [none, none, none, none] [.int z, .ref a0] s46) e78 K76)
          · replace h := if_f e73 h
            obtain ⟨v50, s51, h79, h⟩ := bnd2_some h
            refine b_R_clauseHere_180 (l_a0 := l_a0) (k1 := t_R_softened l_a0 h79 ?_)
            obtain ⟨h52, h⟩ := grd_some h
            exact b_R_clauseHere_185 (nz2 := h52) (k1 := lfI h k)
      · replace h := if_t e57 h
        refine b_R_clauseHere_149 (l_a0 := l_a0) (k1 := t_R_fails l_a0 rfl ?_)
        obtain ⟨h53, h⟩ := grd_some h
        exact b_R_clauseHere_155 (nz2 := h53) (k1 := lfI h k)
    · replace h := if_t e56 h
      refine b_R_clauseHere_133 (l_a0 := l_a0) (k1 := t_R_fails l_a0 rfl ?_)
      obtain ⟨h54, h⟩ := grd_some h
      exact b_R_clauseHere_139 (nz2 := h54) (k1 := lfI h k)
  clear hdj25
  refine b_R_clauseHere_4 (l_a0 := l_a0) (k1 := fun e80 => ?_) (k2 := fun e80 => ?_)
  · replace h := if_f e80 h
    refine b_R_clauseHere_60  (k1 := fun e81 => ?_) (k2 := fun e81 => ?_)
    · replace h := if_f e81 h
      obtain ⟨v3, s4, h82, h⟩ := bnd2_some h
      refine b_R_clauseHere_103 (l_a0 := l_a0) (k1 := t_R_isWord l_a0 h82 ?_)
      obtain ⟨j7, hdj7, h⟩ := jn_some h
      have hj7 : ∀ (s8 : AS), j7 s8 = some (v, s') → V κ M_R_clauseHere (RI F) 123 [some (.ref a0), some (.int (gi s2 a0 11)), some (.int ((gi s2 a0 14) / 6)), none] [] s8 := by
        intro s8 h
        rw [hdj7] at h
        refine b_R_clauseHere_123  (k1 := ?_)
        exact hj25 _ _  h
      clear hdj7
      refine b_R_clauseHere_110  (k1 := fun e83 => ?_) (k2 := fun e83 => ?_)
      · replace h := if_f e83 h
        exact hj7 _  h
      · replace h := if_t e83 h
        obtain ⟨v5, s6, h84, h⟩ := bnd2_some h
        refine b_R_clauseHere_113 (l_a0 := l_a0) (k1 := t_R_isWord l_a0 h84 ?_)
        refine b_R_clauseHere_120  (k1 := fun e85 => ?_) (k2 := fun e85 => ?_)
        · replace h := if_t e85 h
          refine b_R_clauseHere_127  (k1 := ?_)
          exact hj25 _ _  h
        · replace h := if_f e85 h
          exact hj7 _  h
    · replace h := if_t e81 h
      obtain ⟨v9, s10, h86, h⟩ := bnd2_some h
      refine b_R_clauseHere_65 (l_a0 := l_a0) (k1 := t_R_isWord l_a0 h86 ?_)
      obtain ⟨j15, hdj15, h⟩ := jn_some h
      have hj15 : ∀ (s16 : AS), j15 s16 = some (v, s') → V κ M_R_clauseHere (RI F) 95 [some (.ref a0), some (.int (gi s2 a0 11)), some (.int ((gi s2 a0 14) / 6)), none] [] s16 := by
        intro s16 h
        rw [hdj15] at h
        refine b_R_clauseHere_95  (k1 := ?_)
        exact hj25 _ _  h
      clear hdj15
      refine b_R_clauseHere_72  (k1 := fun e87 => ?_) (k2 := fun e87 => ?_)
      · replace h := if_f e87 h
        exact hj15 _  h
      · replace h := if_t e87 h
        obtain ⟨v11, s12, h88, h⟩ := bnd2_some h
        refine b_R_clauseHere_75 (l_a0 := l_a0) (k1 := t_R_isWord l_a0 h88 ?_)
        refine b_R_clauseHere_82  (k1 := fun e89 => ?_) (k2 := fun e89 => ?_)
        · replace h := if_f e89 h
          exact hj15 _  h
        · replace h := if_t e89 h
          obtain ⟨v13, s14, h90, h⟩ := bnd2_some h
          refine b_R_clauseHere_85 (l_a0 := l_a0) (k1 := t_R_isWord l_a0 h90 ?_)
          refine b_R_clauseHere_92  (k1 := fun e91 => ?_) (k2 := fun e91 => ?_)
          · replace h := if_t e91 h
            refine b_R_clauseHere_99  (k1 := ?_)
            exact hj25 _ _  h
          · replace h := if_f e91 h
            exact hj15 _  h
  · replace h := if_t e80 h
    obtain ⟨v17, s18, h92, h⟩ := bnd2_some h
    refine b_R_clauseHere_22 (l_a0 := l_a0) (k1 := t_R_isWord l_a0 h92 ?_)
    obtain ⟨j23, hdj23, h⟩ := jn_some h
    have hj23 : ∀ (s24 : AS), j23 s24 = some (v, s') → V κ M_R_clauseHere (RI F) 52 [some (.ref a0), some (.int (gi s2 a0 11)), some (.int ((gi s2 a0 14) / 6)), none] [] s24 := by
      intro s24 h
      rw [hdj23] at h
      refine b_R_clauseHere_52  (k1 := ?_)
      exact hj25 _ _  h
    clear hdj23
    refine b_R_clauseHere_29  (k1 := fun e93 => ?_) (k2 := fun e93 => ?_)
    · replace h := if_f e93 h
      exact hj23 _  h
    · replace h := if_t e93 h
      obtain ⟨v19, s20, h94, h⟩ := bnd2_some h
      refine b_R_clauseHere_32 (l_a0 := l_a0) (k1 := t_R_isWord l_a0 h94 ?_)
      refine b_R_clauseHere_39  (k1 := fun e95 => ?_) (k2 := fun e95 => ?_)
      · replace h := if_f e95 h
        exact hj23 _  h
      · replace h := if_t e95 h
        obtain ⟨v21, s22, h96, h⟩ := bnd2_some h
        refine b_R_clauseHere_42 (l_a0 := l_a0) (k1 := t_R_isWord l_a0 h96 ?_)
        refine b_R_clauseHere_49  (k1 := fun e97 => ?_) (k2 := fun e97 => ?_)
        · replace h := if_t e97 h
          refine b_R_clauseHere_56  (k1 := ?_)
          exact hj25 _ _  h
        · replace h := if_f e97 h
          exact hj23 _  h
noncomputable def L_R_clausesHere_5 (κ : Ko) (k_36 : Int32 → AS → Option (Int32 × AS)) : Nat → Nat → Int32 → AS → Option (Int32 × AS)
  | 0, _, _, _ => none
  | d + 1, a0, x1, st => if x1 = 0 then k_36 x1 st else bnd2 (f_R_see κ a0 st) (fun v3 s4 => if v3 = 59 then bnd2 (f_R_clauseHere κ a0 (ui s4 a0 11 ((gi s4 a0 11) + 1))) (fun v5 s6 => L_R_clausesHere_5 κ k_36 d a0 v5 s6) else k_36 x1 s4)
noncomputable def f_R_clausesHere (κ : Ko) (a0 : Nat) (st : AS) : Option (Int32 × AS) := bnd2 (f_R_clauseHere κ a0 st) (fun v1 s2 => L_R_clausesHere_5 κ (fun (v11 : Int32) (s12 : AS) => grd (v11 = 0 ∨ v11 = 1) (some (v11, s12))) FU a0 v1 s2)
theorem l_R_clausesHere_5 {κ : Ko} {F : Int32 → AS → Prop} {v : Int32} {s' : AS} (k : F v s') {k_36 : Int32 → AS → Option (Int32 × AS)} (hk_36 : ∀ (x1 : Int32) (st : AS), k_36 x1 st = some (v, s') → V κ M_R_clausesHere (RI F) 36 [none, some (.int x1)] [] st) : ∀ (d : Nat) (a0 : Nat) (x1 : Int32) (st : AS), ly κ a0 = (12, 36) → L_R_clausesHere_5 κ k_36 d a0 x1 st = some (v, s') → V κ M_R_clausesHere (RI F) 5 [some (.ref a0), some (.int x1)] [] st := by
  intro d
  induction d with
  | zero =>
    intro a0 x1 st l_a0 h
    exact nn_some h
  | succ d ih =>
    intro a0 x1 st l_a0 h
    rw [L_R_clausesHere_5] at h
    refine b_R_clausesHere_5  (k1 := fun e7 => ?_) (k2 := fun e7 => ?_)
    · replace h := if_t e7 h
      exact hk_36 _ _  h
    · replace h := if_f e7 h
      obtain ⟨v3, s4, h8, h⟩ := bnd2_some h
      refine b_R_clausesHere_9 (l_a0 := l_a0) (k1 := t_R_see l_a0 h8 ?_)
      refine b_R_clausesHere_13  (k1 := fun e9 => ?_) (k2 := fun e9 => ?_)
      · replace h := if_f e9 h
        exact hk_36 _ _  h
      · replace h := if_t e9 h
        obtain ⟨v5, s6, h10, h⟩ := bnd2_some h
        refine b_R_clausesHere_18 (l_a0 := l_a0) (k1 := t_R_clauseHere l_a0 h10 ?_)
        refine b_R_clausesHere_32  (k1 := ?_)
        exact ih _ _ _ l_a0 h
theorem t_R_clausesHere {κ : Ko} {F : Int32 → AS → Prop} {a0 : Nat} {st : AS} {v : Int32} {s' : AS} (l_a0 : ly κ a0 = (12, 36)) (h : f_R_clausesHere κ a0 st = some (v, s')) (k : F v s') : C κ M_R_clausesHere [.ref a0] st (RI F) := by
  unfold f_R_clausesHere at h
  refine e_R_clausesHere ?_
  obtain ⟨v1, s2, h14, h⟩ := bnd2_some h
  refine b_R_clausesHere_0 (l_a0 := l_a0) (k1 := t_R_clauseHere l_a0 h14 ?_)
  refine b_R_clausesHere_4  (k1 := ?_)
  refine l_R_clausesHere_5 k ?_ FU _ _ _ l_a0 h
  · intro v11 s12 h
    obtain ⟨h13, h⟩ := grd_some h
    exact b_R_clausesHere_36 (nz2 := h13) (k1 := lfI h k)
noncomputable def f_R_text (κ : Ko) (a0 : Nat) (x1 : Int32) (st : AS) : Option (Int32 × AS) := jn (some (((-1) : Int32), st)) fun j29 => if (wi ((x1 : Int32).toInt64) (0 : Int64) (3 : Int64)) = 0 then j29 else grd (vp_in x1 4) (if (gi st (a0 + 2) (x1 : Int32).toNatClampNeg) = 6 then j29 else jn (fun (s6 : AS) => jn (fun (s9 : AS) => jn (fun (v16 : Int32) (s17 : AS) => jn (fun (s21 : AS) => if (gi (ui s21 a0 1 0) a0 12) ≤ 0 then jn (fun (s25 : AS) => grd (vp_in x1 4) (grd (vp_in x1 4) (grd (vp_in x1 4) (some ((gi (ui s25 (a0 + 2) (x1 : Int32).toNatClampNeg ((gi s25 (a0 + 2) (x1 : Int32).toNatClampNeg) + 1)) (a0 + 2) (x1 : Int32).toNatClampNeg) - 1, ui s25 (a0 + 2) (x1 : Int32).toNatClampNeg ((gi s25 (a0 + 2) (x1 : Int32).toNatClampNeg) + 1)))))) fun j24 => if x1 = 0 then grd (vp_in (gi (ui s21 a0 1 0) a0 14) 6) (if 0 ≤ (gi (ui s21 a0 1 0) (a0 + 7) (gi (ui s21 a0 1 0) a0 14 : Int32).toNatClampNeg) then j24 (ui s21 a0 1 0) else grd (vp_in (gi (ui s21 a0 1 0) a0 14) 6) (j24 (ui (ui s21 a0 1 0) (a0 + 7) (gi (ui s21 a0 1 0) a0 14 : Int32).toNatClampNeg 99))) else j24 (ui s21 a0 1 0) else some (((-2) : Int32) - (gi (ui s21 a0 1 0) a0 12), (ui s21 a0 1 0))) fun j20 => if v16 = 0 then j20 s17 else bnd2 (f_R_see κ a0 s17) (fun v18 s19 => if v18 = ((-1)) then j20 s19 else j20 ((f_R_fails κ a0 (0 : Int32) (gi s19 a0 11) s19).2))) fun j15 => if x1 = 3 then grd (vp_in 3 4) (bnd2 (f_R_stripHere κ a0 (gi (ui (ui (ui (ui s9 a0 17 0) a0 11 0) a0 12 0) a0 15 0) (a0 + 2) (3 : Int32).toNatClampNeg) (ui (ui (ui (ui s9 a0 17 0) a0 11 0) a0 12 0) a0 15 0)) (fun v13 s14 => j15 v13 s14)) else bnd2 (f_R_clausesHere κ a0 (ui (ui (ui (ui s9 a0 17 0) a0 11 0) a0 12 0) a0 15 0)) (fun v10 s11 => j15 v10 s11)) fun j8 => if x1 = 0 then grd (vp_in (gi s6 a0 14) 6) (j8 (ui s6 (a0 + 7) (gi s6 a0 14 : Int32).toNatClampNeg ((-1)))) else j8 s6) fun j5 => grd (vp_in x1 4) (if 3 ≤ x1 then j5 (ui st a0 14 (((6 : Int32) * x1) + (gi st (a0 + 2) (x1 : Int32).toNatClampNeg))) else grd (vp_in (gi (ui st a0 14 (((6 : Int32) * x1) + (gi st (a0 + 2) (x1 : Int32).toNatClampNeg))) a0 14) 18) (grd (vp_in (gi (ui (ui st a0 14 (((6 : Int32) * x1) + (gi st (a0 + 2) (x1 : Int32).toNatClampNeg))) (a0 + 4) (gi (ui st a0 14 (((6 : Int32) * x1) + (gi st (a0 + 2) (x1 : Int32).toNatClampNeg))) a0 14 : Int32).toNatClampNeg 0) a0 14) 18) (j5 (ui (ui (ui st a0 14 (((6 : Int32) * x1) + (gi st (a0 + 2) (x1 : Int32).toNatClampNeg))) (a0 + 4) (gi (ui st a0 14 (((6 : Int32) * x1) + (gi st (a0 + 2) (x1 : Int32).toNatClampNeg))) a0 14 : Int32).toNatClampNeg 0) (a0 + 6) (gi (ui (ui st a0 14 (((6 : Int32) * x1) + (gi st (a0 + 2) (x1 : Int32).toNatClampNeg))) (a0 + 4) (gi (ui st a0 14 (((6 : Int32) * x1) + (gi st (a0 + 2) (x1 : Int32).toNatClampNeg))) a0 14 : Int32).toNatClampNeg 0) a0 14 : Int32).toNatClampNeg 0)))))
theorem t_R_text {κ : Ko} {F : Int32 → AS → Prop} {a0 : Nat} {x1 : Int32} {st : AS} {v : Int32} {s' : AS} (l_a0 : ly κ a0 = (12, 36)) (h : f_R_text κ a0 x1 st = some (v, s')) (k : F v s') : C κ M_R_text [.ref a0, .int x1] st (RI F) := by
  unfold f_R_text at h
  refine e_R_text ?_
  refine b_R_text_0  (k1 := t_R_in  rfl ?_)
  obtain ⟨j29, hdj29, h⟩ := jn_some h
  have hj29 : j29 = some (v, s') → V κ M_R_text (RI F) 23 [none, none, none] [] st := by
    intro h
    rw [hdj29] at h
    exact b_R_text_23  (k1 := lfI h k)
  clear hdj29
  refine b_R_text_9  (k1 := fun e30 => ?_) (k2 := fun e30 => ?_)
  · replace h := if_t e30 h
    exact hj29  h
  · replace h := if_f e30 h
    obtain ⟨h1, h⟩ := grd_some h
    refine b_R_text_12 (l_a0 := l_a0) (b1 := h1) (k2 := fun e31 => ?_) (k3 := fun e31 => ?_)
    · replace h := if_f e31 h
      obtain ⟨j5, hdj5, h⟩ := jn_some h
      have hj5 : ∀ (s6 : AS), j5 s6 = some (v, s') → V κ M_R_text (RI F) 65 [some (.ref a0), some (.int x1), none] [] s6 := by
        intro s6 h
        rw [hdj5] at h
        obtain ⟨j8, hdj8, h⟩ := jn_some h
        have hj8 : ∀ (s9 : AS), j8 s9 = some (v, s') → V κ M_R_text (RI F) 79 [some (.ref a0), some (.int x1), none] [] s9 := by
          intro s9 h
          rw [hdj8] at h
          obtain ⟨j15, hdj15, h⟩ := jn_some h
          have hj15 : ∀ (v16 : Int32) (s17 : AS), j15 v16 s17 = some (v, s') → V κ M_R_text (RI F) 121 [some (.ref a0), some (.int x1), none] [.int v16] s17 := by
            intro v16 s17 h
            rw [hdj15] at h
            obtain ⟨j20, hdj20, h⟩ := jn_some h
            have hj20 : ∀ (s21 : AS), j20 s21 = some (v, s') → V κ M_R_text (RI F) 144 [some (.ref a0), some (.int x1), none] [] s21 := by
              intro s21 h
              rw [hdj20] at h
              refine b_R_text_144 (l_a0 := l_a0) (k1 := fun e32 => ?_) (k2 := fun e32 => ?_)
              · replace h := if_t e32 h
                obtain ⟨j24, hdj24, h⟩ := jn_some h
                have hj24 : ∀ (s25 : AS), j24 s25 = some (v, s') → V κ M_R_text (RI F) 191 [some (.ref a0), some (.int x1), none] [] s25 := by
                  intro s25 h
                  rw [hdj24] at h
                  obtain ⟨h26, h⟩ := grd_some h
                  obtain ⟨h27, h⟩ := grd_some h
                  obtain ⟨h28, h⟩ := grd_some h
                  exact b_R_text_191 (l_a0 := l_a0) (b1 := h26) (b2 := h27) (b3 := h28) (k4 := lfI h k)
                clear hdj24
                refine b_R_text_164  (k1 := fun e33 => ?_) (k2 := fun e33 => ?_)
                · replace h := if_f e33 h
                  exact hj24 _  h
                · replace h := if_t e33 h
                  obtain ⟨h22, h⟩ := grd_some h
                  refine b_R_text_168 (l_a0 := l_a0) (b1 := h22) (k2 := fun e34 => ?_) (k3 := fun e34 => ?_)
                  · replace h := if_t e34 h
                    exact hj24 _  h
                  · replace h := if_f e34 h
                    obtain ⟨h23, h⟩ := grd_some h
                    refine b_R_text_180 (l_a0 := l_a0) (b1 := h23) (k2 := ?_)
                    exact hj24 _  h
              · replace h := if_f e32 h
                exact b_R_text_156 (l_a0 := l_a0) (k1 := lfI h k)
            clear hdj20
            refine b_R_text_121  (k1 := fun e35 => ?_) (k2 := fun e35 => ?_)
            · replace h := if_t e35 h
              exact hj20 _  h
            · replace h := if_f e35 h
              obtain ⟨v18, s19, h36, h⟩ := bnd2_some h
              refine b_R_text_126 (l_a0 := l_a0) (k1 := t_R_see l_a0 h36 ?_)
              refine b_R_text_130  (k1 := fun e37 => ?_) (k2 := fun e37 => ?_)
              · replace h := if_t e37 h
                exact hj20 _  h
              · replace h := if_f e37 h
                refine b_R_text_134 (l_a0 := l_a0) (k1 := t_R_fails l_a0 rfl ?_)
                refine b_R_text_143  (k1 := ?_)
                exact hj20 _  h
          clear hdj15
          refine b_R_text_79 (l_a0 := l_a0) (k1 := fun e38 => ?_) (k2 := fun e38 => ?_)
          · replace h := if_f e38 h
            obtain ⟨v10, s11, h39, h⟩ := bnd2_some h
            refine b_R_text_117 (l_a0 := l_a0) (k1 := t_R_clausesHere l_a0 h39 ?_)
            exact hj15 _ _  h
          · replace h := if_t e38 h
            obtain ⟨h12, h⟩ := grd_some h
            obtain ⟨v13, s14, h40, h⟩ := bnd2_some h
            refine b_R_text_104 (l_a0 := l_a0) (b1 := h12) (k2 := t_R_stripHere l_a0 h40 ?_)
            refine b_R_text_114  (k1 := ?_)
            exact hj15 _ _  h
        clear hdj8
        refine b_R_text_65  (k1 := fun e41 => ?_) (k2 := fun e41 => ?_)
        · replace h := if_f e41 h
          exact hj8 _  h
        · replace h := if_t e41 h
          obtain ⟨h7, h⟩ := grd_some h
          refine b_R_text_69 (l_a0 := l_a0) (b1 := h7) (k2 := ?_)
          exact hj8 _  h
      clear hdj5
      obtain ⟨h2, h⟩ := grd_some h
      refine b_R_text_25 (l_a0 := l_a0) (b1 := h2) (k2 := fun e42 => ?_) (k3 := fun e42 => ?_)
      · replace h := if_t e42 h
        exact hj5 _  h
      · replace h := if_f e42 h
        obtain ⟨h3, h⟩ := grd_some h
        obtain ⟨h4, h⟩ := grd_some h
        refine b_R_text_45 (l_a0 := l_a0) (b1 := h3) (b2 := h4) (k3 := ?_)
        exact hj5 _  h
    · replace h := if_t e31 h
      exact hj29  h
noncomputable def f_R_isText (κ : Ko) (a0 : Nat) (x1 : Int32) (x2 : Int32) (st : AS) : Option Int32 := jn (some (0 : Int32)) fun j2 => if x2 < 0 then j2 else grd (vp_in x1 4) (if (gi st (a0 + 2) (x1 : Int32).toNatClampNeg) ≤ x2 then j2 else some (1 : Int32))
theorem t_R_isText {κ : Ko} {F : Int32 → AS → Prop} {a0 : Nat} {x1 : Int32} {x2 : Int32} {st : AS} {v : Int32} (l_a0 : ly κ a0 = (12, 36)) (h : f_R_isText κ a0 x1 x2 st = some v) (k : F v st) : C κ M_R_isText [.ref a0, .int x1, .int x2] st (RI F) := by
  unfold f_R_isText at h
  refine e_R_isText ?_
  obtain ⟨j2, hdj2, h⟩ := jn_some h
  have hj2 : j2 = some v → V κ M_R_isText (RI F) 18 [none, none, none] [] st := by
    intro h
    rw [hdj2] at h
    exact b_R_isText_18  (k1 := lfIP h k)
  clear hdj2
  refine b_R_isText_0  (k1 := fun e3 => ?_) (k2 := fun e3 => ?_)
  · replace h := if_t e3 h
    exact hj2  h
  · replace h := if_f e3 h
    obtain ⟨h1, h⟩ := grd_some h
    refine b_R_isText_4 (l_a0 := l_a0) (b1 := h1) (k2 := fun e4 => ?_) (k3 := fun e4 => ?_)
    · replace h := if_t e4 h
      exact hj2  h
    · replace h := if_f e4 h
      exact b_R_isText_14  (k1 := lfIP h k)
noncomputable def f_R_sheetOf (κ : Ko) (a0 : Nat) (x1 : Int32) (x2 : Int32) (st : AS) : Option Int32 := grd (vp_in (((3680 : Int32) * x1) + x2) 25760) (some (gi st (a0 + 14) (((3680 : Int32) * x1) + x2 : Int32).toNatClampNeg))
theorem t_R_sheetOf {κ : Ko} {F : Int32 → AS → Prop} {a0 : Nat} {x1 : Int32} {x2 : Int32} {st : AS} {v : Int32} (l_a0 : ly κ a0 = (12, 36)) (h : f_R_sheetOf κ a0 x1 x2 st = some v) (k : F v st) : C κ M_R_sheetOf [.ref a0, .int x1, .int x2] st (RI F) := by
  unfold f_R_sheetOf at h
  refine e_R_sheetOf ?_
  obtain ⟨h1, h⟩ := grd_some h
  exact b_R_sheetOf_0 (l_a0 := l_a0) (b1 := h1) (k2 := lfIP h k)
noncomputable def f_R_facetComes (κ : Ko) (a0 : Nat) (x1 : Int32) (x2 : Int32) (x3 : Int32) (x4 : Int32) (x5 : Int32) (st : AS) : Option AS := bnd (f_R_sheetOf κ a0 x1 (6 : Int32) st) (fun v1 => grd (vp_in ((((3680 : Int32) * x1) + 10) + ((4 : Int32) * v1)) 25760) (grd (vp_in (((((3680 : Int32) * x1) + 10) + ((4 : Int32) * v1)) + 1) 25760) (grd (vp_in (((((3680 : Int32) * x1) + 10) + ((4 : Int32) * v1)) + 2) 25760) (grd (vp_in (((((3680 : Int32) * x1) + 10) + ((4 : Int32) * v1)) + 3) 25760) (grd (vp_in (((3680 : Int32) * x1) + 6) 25760) (grd (vp_in (((3680 : Int32) * x1) + 6) 25760) (some (ui (ui (ui (ui (ui st (a0 + 14) ((((3680 : Int32) * x1) + 10) + ((4 : Int32) * v1) : Int32).toNatClampNeg x2) (a0 + 14) (((((3680 : Int32) * x1) + 10) + ((4 : Int32) * v1)) + 1 : Int32).toNatClampNeg x3) (a0 + 14) (((((3680 : Int32) * x1) + 10) + ((4 : Int32) * v1)) + 2 : Int32).toNatClampNeg x4) (a0 + 14) (((((3680 : Int32) * x1) + 10) + ((4 : Int32) * v1)) + 3 : Int32).toNatClampNeg x5) (a0 + 14) (((3680 : Int32) * x1) + 6 : Int32).toNatClampNeg ((gi (ui (ui (ui (ui st (a0 + 14) ((((3680 : Int32) * x1) + 10) + ((4 : Int32) * v1) : Int32).toNatClampNeg x2) (a0 + 14) (((((3680 : Int32) * x1) + 10) + ((4 : Int32) * v1)) + 1 : Int32).toNatClampNeg x3) (a0 + 14) (((((3680 : Int32) * x1) + 10) + ((4 : Int32) * v1)) + 2 : Int32).toNatClampNeg x4) (a0 + 14) (((((3680 : Int32) * x1) + 10) + ((4 : Int32) * v1)) + 3 : Int32).toNatClampNeg x5) (a0 + 14) (((3680 : Int32) * x1) + 6 : Int32).toNatClampNeg) + 1)))))))))
theorem t_R_facetComes {κ : Ko} {F : AS → Prop} {a0 : Nat} {x1 : Int32} {x2 : Int32} {x3 : Int32} {x4 : Int32} {x5 : Int32} {st : AS} {s' : AS} (l_a0 : ly κ a0 = (12, 36)) (h : f_R_facetComes κ a0 x1 x2 x3 x4 x5 st = some s') (k : F s') : C κ M_R_facetComes [.ref a0, .int x1, .int x2, .int x3, .int x4, .int x5] st (RV F) := by
  unfold f_R_facetComes at h
  refine e_R_facetComes ?_
  obtain ⟨v1, h8, h⟩ := bnd_some h
  refine b_R_facetComes_0 (l_a0 := l_a0) (k1 := t_R_sheetOf l_a0 h8 ?_)
  obtain ⟨h2, h⟩ := grd_some h
  obtain ⟨h3, h⟩ := grd_some h
  obtain ⟨h4, h⟩ := grd_some h
  obtain ⟨h5, h⟩ := grd_some h
  obtain ⟨h6, h⟩ := grd_some h
  obtain ⟨h7, h⟩ := grd_some h
  exact b_R_facetComes_16 (l_a0 := l_a0) (b1 := h2) (b2 := h3) (b3 := h4) (b4 := h5) (b5 := h6) (b6 := h7) (k7 := lfV h k)
noncomputable def f_R_sheetBegins (κ : Ko) (a0 : Nat) (x1 : Int32) (x2 : Int32) (x3 : Int32) (x4 : Int32) (x5 : Int32) (x6 : Int32) (st : AS) : Option AS := grd (vp_in ((3680 : Int32) * x1) 25760) (grd (vp_in (((3680 : Int32) * x1) + 1) 25760) (grd (vp_in (((3680 : Int32) * x1) + 2) 25760) (grd (vp_in (((3680 : Int32) * x1) + 3) 25760) (grd (vp_in (((3680 : Int32) * x1) + 4) 25760) (grd (vp_in (((3680 : Int32) * x1) + 5) 25760) (grd (vp_in (((3680 : Int32) * x1) + 6) 25760) (grd (vp_in (((3680 : Int32) * x1) + 7) 25760) (grd (vp_in (((3680 : Int32) * x1) + 8) 25760) (grd (vp_in (((3680 : Int32) * x1) + 9) 25760) (bnd (f_R_facetComes κ a0 x1 (0 : Int32) (0 : Int32) x2 x3 (ui (ui (ui (ui (ui (ui (ui (ui (ui (ui st (a0 + 14) ((3680 : Int32) * x1 : Int32).toNatClampNeg x2) (a0 + 14) (((3680 : Int32) * x1) + 1 : Int32).toNatClampNeg x3) (a0 + 14) (((3680 : Int32) * x1) + 2 : Int32).toNatClampNeg x4) (a0 + 14) (((3680 : Int32) * x1) + 3 : Int32).toNatClampNeg x5) (a0 + 14) (((3680 : Int32) * x1) + 4 : Int32).toNatClampNeg x6) (a0 + 14) (((3680 : Int32) * x1) + 5 : Int32).toNatClampNeg 0) (a0 + 14) (((3680 : Int32) * x1) + 6 : Int32).toNatClampNeg 0) (a0 + 14) (((3680 : Int32) * x1) + 7 : Int32).toNatClampNeg 0) (a0 + 14) (((3680 : Int32) * x1) + 8 : Int32).toNatClampNeg x2) (a0 + 14) (((3680 : Int32) * x1) + 9 : Int32).toNatClampNeg x3)) (fun s11 => some s11)))))))))))
theorem t_R_sheetBegins {κ : Ko} {F : AS → Prop} {a0 : Nat} {x1 : Int32} {x2 : Int32} {x3 : Int32} {x4 : Int32} {x5 : Int32} {x6 : Int32} {st : AS} {s' : AS} (l_a0 : ly κ a0 = (12, 36)) (h : f_R_sheetBegins κ a0 x1 x2 x3 x4 x5 x6 st = some s') (k : F s') : C κ M_R_sheetBegins [.ref a0, .int x1, .int x2, .int x3, .int x4, .int x5, .int x6] st (RV F) := by
  unfold f_R_sheetBegins at h
  refine e_R_sheetBegins ?_
  obtain ⟨h1, h⟩ := grd_some h
  obtain ⟨h2, h⟩ := grd_some h
  obtain ⟨h3, h⟩ := grd_some h
  obtain ⟨h4, h⟩ := grd_some h
  obtain ⟨h5, h⟩ := grd_some h
  obtain ⟨h6, h⟩ := grd_some h
  obtain ⟨h7, h⟩ := grd_some h
  obtain ⟨h8, h⟩ := grd_some h
  obtain ⟨h9, h⟩ := grd_some h
  obtain ⟨h10, h⟩ := grd_some h
  obtain ⟨s11, h12, h⟩ := bnd_some h
  refine b_R_sheetBegins_0 (l_a0 := l_a0) (b1 := h1) (b2 := h2) (b3 := h3) (b4 := h4) (b5 := h5) (b6 := h6) (b7 := h7) (b8 := h8) (b9 := h9) (b10 := h10) (k11 := t_R_facetComes l_a0 h12 ?_)
  exact b_R_sheetBegins_121  (k1 := lfV h k)
noncomputable def f_R_sheet (κ : Ko) (a0 : Nat) (x1 : Int32) (x2 : Int32) (x3 : Int32) (x4 : Int32) (st : AS) : Option (Int32 × AS) := jn (some (((-1) : Int32), st)) fun j3 => if (gi st a0 24) = 6 then j3 else if (wi ((x1 : Int32).toInt64) (2 : Int64) (200 : Int64)) = 0 then j3 else if (wi ((x2 : Int32).toInt64) (2 : Int64) (200 : Int64)) = 0 then j3 else bnd (f_R_isText κ a0 (0 : Int32) x3 st) (fun v1 => if v1 = 0 then j3 else if 0 ≤ x4 then bnd (f_R_sheetBegins κ a0 (gi st a0 24) x1 x2 x3 x4 x4 st) (fun s2 => some ((gi (ui s2 a0 24 ((gi s2 a0 24) + 1)) a0 24) - 1, ui s2 a0 24 ((gi s2 a0 24) + 1))) else j3)
theorem t_R_sheet {κ : Ko} {F : Int32 → AS → Prop} {a0 : Nat} {x1 : Int32} {x2 : Int32} {x3 : Int32} {x4 : Int32} {st : AS} {v : Int32} {s' : AS} (l_a0 : ly κ a0 = (12, 36)) (h : f_R_sheet κ a0 x1 x2 x3 x4 st = some (v, s')) (k : F v s') : C κ M_R_sheet [.ref a0, .int x1, .int x2, .int x3, .int x4] st (RI F) := by
  unfold f_R_sheet at h
  refine e_R_sheet ?_
  obtain ⟨j3, hdj3, h⟩ := jn_some h
  have hj3 : j3 = some (v, s') → V κ M_R_sheet (RI F) 51 [none, none, none, none, none] [] st := by
    intro h
    rw [hdj3] at h
    exact b_R_sheet_51  (k1 := lfI h k)
  clear hdj3
  refine b_R_sheet_0 (l_a0 := l_a0) (k1 := fun e4 => ?_) (k2 := fun e4 => ?_)
  · replace h := if_t e4 h
    exact hj3  h
  · replace h := if_f e4 h
    refine b_R_sheet_9  (k1 := t_R_in  rfl ?_)
    refine b_R_sheet_20  (k1 := fun e5 => ?_) (k2 := fun e5 => ?_)
    · replace h := if_t e5 h
      exact hj3  h
    · replace h := if_f e5 h
      refine b_R_sheet_23  (k1 := t_R_in  rfl ?_)
      refine b_R_sheet_34  (k1 := fun e6 => ?_) (k2 := fun e6 => ?_)
      · replace h := if_t e6 h
        exact hj3  h
      · replace h := if_f e6 h
        obtain ⟨v1, h7, h⟩ := bnd_some h
        refine b_R_sheet_37 (l_a0 := l_a0) (k1 := t_R_isText l_a0 h7 ?_)
        refine b_R_sheet_43  (k1 := fun e8 => ?_) (k2 := fun e8 => ?_)
        · replace h := if_t e8 h
          exact hj3  h
        · replace h := if_f e8 h
          refine b_R_sheet_46  (k1 := fun e9 => ?_) (k2 := fun e9 => ?_)
          · replace h := if_t e9 h
            obtain ⟨s2, h10, h⟩ := bnd_some h
            refine b_R_sheet_53 (l_a0 := l_a0) (k1 := t_R_sheetBegins l_a0 h10 ?_)
            exact b_R_sheet_68 (l_a0 := l_a0) (k1 := lfI h k)
          · replace h := if_f e9 h
            exact hj3  h
noncomputable def f_R_isSheet (κ : Ko) (a0 : Nat) (x1 : Int32) (st : AS) : Int32 := jn ((0 : Int32)) fun j1 => if x1 < 0 then j1 else if (gi st a0 24) ≤ x1 then j1 else (1 : Int32)
theorem t_R_isSheet {κ : Ko} {F : Int32 → AS → Prop} {a0 : Nat} {x1 : Int32} {st : AS} {v : Int32} (l_a0 : ly κ a0 = (12, 36)) (h : f_R_isSheet κ a0 x1 st = v) (k : F v st) : C κ M_R_isSheet [.ref a0, .int x1] st (RI F) := by
  unfold f_R_isSheet at h
  refine e_R_isSheet ?_
  obtain ⟨j1, hdj1, h⟩ := jn_some h
  have hj1 : j1 = v → V κ M_R_isSheet (RI F) 16 [none, none] [] st := by
    intro h
    rw [hdj1] at h
    exact b_R_isSheet_16  (k1 := lfIPT h k)
  clear hdj1
  refine b_R_isSheet_0  (k1 := fun e2 => ?_) (k2 := fun e2 => ?_)
  · replace h := if_t e2 h
    exact hj1  h
  · replace h := if_f e2 h
    refine b_R_isSheet_4 (l_a0 := l_a0) (k1 := fun e3 => ?_) (k2 := fun e3 => ?_)
    · replace h := if_t e3 h
      exact hj1  h
    · replace h := if_f e3 h
      exact b_R_isSheet_12  (k1 := lfIPT h k)
noncomputable def f_R_ridgeOf (κ : Ko) (a0 : Nat) (x1 : Int32) (x2 : Int32) (x3 : Int32) (st : AS) : Option Int32 := grd (vp_in (((((3680 : Int32) * x1) + 810) + ((7 : Int32) * x2)) + x3) 25760) (some (gi st (a0 + 14) (((((3680 : Int32) * x1) + 810) + ((7 : Int32) * x2)) + x3 : Int32).toNatClampNeg))
theorem t_R_ridgeOf {κ : Ko} {F : Int32 → AS → Prop} {a0 : Nat} {x1 : Int32} {x2 : Int32} {x3 : Int32} {st : AS} {v : Int32} (l_a0 : ly κ a0 = (12, 36)) (h : f_R_ridgeOf κ a0 x1 x2 x3 st = some v) (k : F v st) : C κ M_R_ridgeOf [.ref a0, .int x1, .int x2, .int x3] st (RI F) := by
  unfold f_R_ridgeOf at h
  refine e_R_ridgeOf ?_
  obtain ⟨h1, h⟩ := grd_some h
  exact b_R_ridgeOf_0 (l_a0 := l_a0) (b1 := h1) (k2 := lfIP h k)
noncomputable def f_R_longOf (κ : Ko) (a0 : Nat) (x1 : Int32) (x2 : Int32) (st : AS) : Option Int32 := bnd (f_R_ridgeOf κ a0 x1 x2 (3 : Int32) st) (fun v1 => bnd (f_R_ridgeOf κ a0 x1 x2 (2 : Int32) st) (fun v2 => some (v1 - v2)))
theorem t_R_longOf {κ : Ko} {F : Int32 → AS → Prop} {a0 : Nat} {x1 : Int32} {x2 : Int32} {st : AS} {v : Int32} (l_a0 : ly κ a0 = (12, 36)) (h : f_R_longOf κ a0 x1 x2 st = some v) (k : F v st) : C κ M_R_longOf [.ref a0, .int x1, .int x2] st (RI F) := by
  unfold f_R_longOf at h
  refine e_R_longOf ?_
  obtain ⟨v1, h3, h⟩ := bnd_some h
  refine b_R_longOf_0 (l_a0 := l_a0) (k1 := t_R_ridgeOf l_a0 h3 ?_)
  obtain ⟨v2, h4, h⟩ := bnd_some h
  refine b_R_longOf_7 (l_a0 := l_a0) (k1 := t_R_ridgeOf l_a0 h4 ?_)
  exact b_R_longOf_14  (k1 := lfIP h k)
noncomputable def L_R_together_4 (κ : Ko) (st : AS) : Nat → Nat → Int32 → Int32 → Int32 → Option Int32
  | 0, _, _, _, _ => none
  | d + 1, a0, x1, x2, x3 => bnd (f_R_sheetOf κ a0 x1 (7 : Int32) st) (fun v1 => if v1 ≤ x3 then some x2 else bnd (f_R_longOf κ a0 x1 x3 st) (fun v2 => L_R_together_4 κ st  d a0 x1 (x2 + v2) (x3 + 1)))
noncomputable def f_R_together (κ : Ko) (a0 : Nat) (x1 : Int32) (st : AS) : Option Int32 := L_R_together_4 κ st  FU a0 x1 (0 : Int32) (0 : Int32)
theorem l_R_together_4 {κ : Ko} {F : Int32 → AS → Prop} {v : Int32} {st : AS} (k : F v st) : ∀ (d : Nat) (a0 : Nat) (x1 : Int32) (x2 : Int32) (x3 : Int32), ly κ a0 = (12, 36) → L_R_together_4 κ st  d a0 x1 x2 x3 = some v → V κ M_R_together (RI F) 4 [some (.ref a0), some (.int x1), some (.int x2), some (.int x3)] [] st := by
  intro d
  induction d with
  | zero =>
    intro a0 x1 x2 x3 l_a0 h
    exact nn_some h
  | succ d ih =>
    intro a0 x1 x2 x3 l_a0 h
    rw [L_R_together_4] at h
    obtain ⟨v1, h3, h⟩ := bnd_some h
    refine b_R_together_4 (l_a0 := l_a0) (k1 := t_R_sheetOf l_a0 h3 ?_)
    refine b_R_together_12  (k1 := fun e4 => ?_) (k2 := fun e4 => ?_)
    · replace h := if_t e4 h
      exact b_R_together_30  (k1 := lfIP h k)
    · replace h := if_f e4 h
      obtain ⟨v2, h5, h⟩ := bnd_some h
      refine b_R_together_15 (l_a0 := l_a0) (k1 := t_R_longOf l_a0 h5 ?_)
      refine b_R_together_22  (k1 := ?_)
      exact ih _ _ _ _ l_a0 h
theorem t_R_together {κ : Ko} {F : Int32 → AS → Prop} {a0 : Nat} {x1 : Int32} {st : AS} {v : Int32} (l_a0 : ly κ a0 = (12, 36)) (h : f_R_together κ a0 x1 st = some v) (k : F v st) : C κ M_R_together [.ref a0, .int x1] st (RI F) := by
  unfold f_R_together at h
  refine e_R_together ?_
  refine b_R_together_0  (k1 := ?_)
  refine l_R_together_4 k FU _ _ _ _ l_a0 h
noncomputable def f_R_facetOf (κ : Ko) (a0 : Nat) (x1 : Int32) (x2 : Int32) (x3 : Int32) (st : AS) : Option Int32 := grd (vp_in (((((3680 : Int32) * x1) + 10) + ((4 : Int32) * x2)) + x3) 25760) (some (gi st (a0 + 14) (((((3680 : Int32) * x1) + 10) + ((4 : Int32) * x2)) + x3 : Int32).toNatClampNeg))
theorem t_R_facetOf {κ : Ko} {F : Int32 → AS → Prop} {a0 : Nat} {x1 : Int32} {x2 : Int32} {x3 : Int32} {st : AS} {v : Int32} (l_a0 : ly κ a0 = (12, 36)) (h : f_R_facetOf κ a0 x1 x2 x3 st = some v) (k : F v st) : C κ M_R_facetOf [.ref a0, .int x1, .int x2, .int x3] st (RI F) := by
  unfold f_R_facetOf at h
  refine e_R_facetOf ?_
  obtain ⟨h1, h⟩ := grd_some h
  exact b_R_facetOf_0 (l_a0 := l_a0) (b1 := h1) (k2 := lfIP h k)
noncomputable def f_R_longSide (κ : Ko) (a0 : Nat) (x1 : Int32) (x2 : Int32) (st : AS) : Option Int32 := bnd (f_R_facetOf κ a0 x1 x2 (2 : Int32) st) (fun v1 => bnd (f_R_facetOf κ a0 x1 x2 (3 : Int32) st) (fun v2 => if v1 < v2 then bnd (f_R_facetOf κ a0 x1 x2 (3 : Int32) st) (fun v3 => some v3) else bnd (f_R_facetOf κ a0 x1 x2 (2 : Int32) st) (fun v4 => some v4)))
theorem t_R_longSide {κ : Ko} {F : Int32 → AS → Prop} {a0 : Nat} {x1 : Int32} {x2 : Int32} {st : AS} {v : Int32} (l_a0 : ly κ a0 = (12, 36)) (h : f_R_longSide κ a0 x1 x2 st = some v) (k : F v st) : C κ M_R_longSide [.ref a0, .int x1, .int x2] st (RI F) := by
  unfold f_R_longSide at h
  refine e_R_longSide ?_
  obtain ⟨v1, h5, h⟩ := bnd_some h
  refine b_R_longSide_0 (l_a0 := l_a0) (k1 := t_R_facetOf l_a0 h5 ?_)
  obtain ⟨v2, h6, h⟩ := bnd_some h
  refine b_R_longSide_7 (l_a0 := l_a0) (k1 := t_R_facetOf l_a0 h6 ?_)
  refine b_R_longSide_14  (k1 := fun e7 => ?_) (k2 := fun e7 => ?_)
  · replace h := if_t e7 h
    obtain ⟨v3, h8, h⟩ := bnd_some h
    refine b_R_longSide_27 (l_a0 := l_a0) (k1 := t_R_facetOf l_a0 h8 ?_)
    exact b_R_longSide_34  (k1 := lfIP h k)
  · replace h := if_f e7 h
    obtain ⟨v4, h9, h⟩ := bnd_some h
    refine b_R_longSide_17 (l_a0 := l_a0) (k1 := t_R_facetOf l_a0 h9 ?_)
    exact b_R_longSide_24  (k1 := lfIP h k)
noncomputable def f_R_shortSide (κ : Ko) (a0 : Nat) (x1 : Int32) (x2 : Int32) (st : AS) : Option Int32 := bnd (f_R_facetOf κ a0 x1 x2 (2 : Int32) st) (fun v1 => bnd (f_R_facetOf κ a0 x1 x2 (3 : Int32) st) (fun v2 => if v2 ≤ v1 then bnd (f_R_facetOf κ a0 x1 x2 (3 : Int32) st) (fun v3 => some v3) else bnd (f_R_facetOf κ a0 x1 x2 (2 : Int32) st) (fun v4 => some v4)))
theorem t_R_shortSide {κ : Ko} {F : Int32 → AS → Prop} {a0 : Nat} {x1 : Int32} {x2 : Int32} {st : AS} {v : Int32} (l_a0 : ly κ a0 = (12, 36)) (h : f_R_shortSide κ a0 x1 x2 st = some v) (k : F v st) : C κ M_R_shortSide [.ref a0, .int x1, .int x2] st (RI F) := by
  unfold f_R_shortSide at h
  refine e_R_shortSide ?_
  obtain ⟨v1, h5, h⟩ := bnd_some h
  refine b_R_shortSide_0 (l_a0 := l_a0) (k1 := t_R_facetOf l_a0 h5 ?_)
  obtain ⟨v2, h6, h⟩ := bnd_some h
  refine b_R_shortSide_7 (l_a0 := l_a0) (k1 := t_R_facetOf l_a0 h6 ?_)
  refine b_R_shortSide_14  (k1 := fun e7 => ?_) (k2 := fun e7 => ?_)
  · replace h := if_t e7 h
    obtain ⟨v3, h8, h⟩ := bnd_some h
    refine b_R_shortSide_27 (l_a0 := l_a0) (k1 := t_R_facetOf l_a0 h8 ?_)
    exact b_R_shortSide_34  (k1 := lfIP h k)
  · replace h := if_f e7 h
    obtain ⟨v4, h9, h⟩ := bnd_some h
    refine b_R_shortSide_17 (l_a0 := l_a0) (k1 := t_R_facetOf l_a0 h9 ?_)
    exact b_R_shortSide_24  (k1 := lfIP h k)
noncomputable def f_R_edgeOf (κ : Ko) (a0 : Nat) (x1 : Int32) (x2 : Int32) (st : AS) : Option Int32 := bnd (f_R_facetOf κ a0 x1 x2 (0 : Int32) st) (fun v1 => bnd (f_R_facetOf κ a0 x1 x2 (1 : Int32) st) (fun v2 => bnd (f_R_facetOf κ a0 x1 x2 (0 : Int32) st) (fun v3 => bnd (f_R_facetOf κ a0 x1 x2 (2 : Int32) st) (fun v4 => bnd (f_R_sheetOf κ a0 x1 (0 : Int32) st) (fun v5 => bnd (f_R_facetOf κ a0 x1 x2 (1 : Int32) st) (fun v6 => bnd (f_R_facetOf κ a0 x1 x2 (3 : Int32) st) (fun v7 => bnd (f_R_sheetOf κ a0 x1 (1 : Int32) st) (fun v8 => some (if (v6 + v7) = v8 then (((if v1 = 0 then (1 : Int32) else (0 : Int32) : Int32) + (if v2 = 0 then (1 : Int32) else (0 : Int32) : Int32)) + (if (v3 + v4) = v5 then (1 : Int32) else (0 : Int32) : Int32)) + 1 else (((if v1 = 0 then (1 : Int32) else (0 : Int32) : Int32) + (if v2 = 0 then (1 : Int32) else (0 : Int32) : Int32)) + (if (v3 + v4) = v5 then (1 : Int32) else (0 : Int32) : Int32)) + 0 : Int32)))))))))
theorem t_R_edgeOf {κ : Ko} {F : Int32 → AS → Prop} {a0 : Nat} {x1 : Int32} {x2 : Int32} {st : AS} {v : Int32} (l_a0 : ly κ a0 = (12, 36)) (h : f_R_edgeOf κ a0 x1 x2 st = some v) (k : F v st) : C κ M_R_edgeOf [.ref a0, .int x1, .int x2] st (RI F) := by
  unfold f_R_edgeOf at h
  refine e_R_edgeOf ?_
  obtain ⟨v1, h9, h⟩ := bnd_some h
  refine b_R_edgeOf_0 (l_a0 := l_a0) (k1 := t_R_facetOf l_a0 h9 ?_)
  have K11 : V κ M_R_edgeOf (RI F) 15 [some (.ref a0), some (.int x1), some (.int x2), none] [.int (if v1 = 0 then (1 : Int32) else (0 : Int32) : Int32)] st := by
    obtain ⟨v2, h12, h⟩ := bnd_some h
    refine b_R_edgeOf_15 (l_a0 := l_a0) (k1 := t_R_facetOf l_a0 h12 ?_)
    have K14 : V κ M_R_edgeOf (RI F) 32 [some (.ref a0), some (.int x1), some (.int x2), none] [.int (if v2 = 0 then (1 : Int32) else (0 : Int32) : Int32), .int (if v1 = 0 then (1 : Int32) else (0 : Int32) : Int32)] st := by
      obtain ⟨v3, h15, h⟩ := bnd_some h
      refine b_R_edgeOf_32 (l_a0 := l_a0) (k1 := t_R_facetOf l_a0 h15 ?_)
      obtain ⟨v4, h16, h⟩ := bnd_some h
      refine b_R_edgeOf_42 (l_a0 := l_a0) (k1 := t_R_facetOf l_a0 h16 ?_)
      obtain ⟨v5, h17, h⟩ := bnd_some h
      refine b_R_edgeOf_49 (l_a0 := l_a0) (k1 := t_R_sheetOf l_a0 h17 ?_)
      have K19 : V κ M_R_edgeOf (RI F) 64 [some (.ref a0), some (.int x1), some (.int x2), none] [.int (if (v3 + v4) = v5 then (1 : Int32) else (0 : Int32) : Int32), .int ((if v1 = 0 then (1 : Int32) else (0 : Int32) : Int32) + (if v2 = 0 then (1 : Int32) else (0 : Int32) : Int32))] st := by
        obtain ⟨v6, h20, h⟩ := bnd_some h
        refine b_R_edgeOf_64 (l_a0 := l_a0) (k1 := t_R_facetOf l_a0 h20 ?_)
        obtain ⟨v7, h21, h⟩ := bnd_some h
        refine b_R_edgeOf_74 (l_a0 := l_a0) (k1 := t_R_facetOf l_a0 h21 ?_)
        obtain ⟨v8, h22, h⟩ := bnd_some h
        refine b_R_edgeOf_81 (l_a0 := l_a0) (k1 := t_R_sheetOf l_a0 h22 ?_)
        have K24 : (RI F) (some (.int (if (v6 + v7) = v8 then (((if v1 = 0 then (1 : Int32) else (0 : Int32) : Int32) + (if v2 = 0 then (1 : Int32) else (0 : Int32) : Int32)) + (if (v3 + v4) = v5 then (1 : Int32) else (0 : Int32) : Int32)) + 1 else (((if v1 = 0 then (1 : Int32) else (0 : Int32) : Int32) + (if v2 = 0 then (1 : Int32) else (0 : Int32) : Int32)) + (if (v3 + v4) = v5 then (1 : Int32) else (0 : Int32) : Int32)) + 0 : Int32))) st := lfIP h k
        refine b_R_edgeOf_88  (k1 := fun e25 => ?_) (k2 := fun e25 => ?_)
        · exact b_R_edgeOf_95  (k1 := (ite_f (P := fun z => (RI F) (some (.int z)) st) e25 K24))
        · exact b_R_edgeOf_91  (k1 := (ite_t (P := fun z => (RI F) (some (.int z)) st) e25 K24))
      refine b_R_edgeOf_56  (k1 := fun e26 => ?_) (k2 := fun e26 => ?_)
      · refine b_R_edgeOf_63  (k1 := ?_)
        exact (ite_f (P := fun z => V κ M_R_edgeOf (RI F) 64 [some (.ref a0), some (.int x1), some (.int x2), none] [.int z, .int ((if v1 = 0 then (1 : Int32) else (0 : Int32) : Int32) + (if v2 = 0 then (1 : Int32) else (0 : Int32) : Int32))] st) e26 K19)
      · refine b_R_edgeOf_59  (k1 := ?_)
        exact (ite_t (P := fun z => V κ M_R_edgeOf (RI F) 64 [some (.ref a0), some (.int x1), some (.int x2), none] [.int z, .int ((if v1 = 0 then (1 : Int32) else (0 : Int32) : Int32) + (if v2 = 0 then (1 : Int32) else (0 : Int32) : Int32))] st) e26 K19)
    refine b_R_edgeOf_24  (k1 := fun e27 => ?_) (k2 := fun e27 => ?_)
    · refine b_R_edgeOf_31  (k1 := ?_)
      exact (ite_f (P := fun z => V κ M_R_edgeOf (RI F) 32 [some (.ref a0), some (.int x1), some (.int x2), none] [.int z, .int (if v1 = 0 then (1 : Int32) else (0 : Int32) : Int32)] st) e27 K14)
    · refine b_R_edgeOf_27  (k1 := ?_)
      exact (ite_t (P := fun z => V κ M_R_edgeOf (RI F) 32 [some (.ref a0), some (.int x1), some (.int x2), none] [.int z, .int (if v1 = 0 then (1 : Int32) else (0 : Int32) : Int32)] st) e27 K14)
  refine b_R_edgeOf_7  (k1 := fun e28 => ?_) (k2 := fun e28 => ?_)
  · refine b_R_edgeOf_14  (k1 := ?_)
    exact (ite_f (P := fun z => V κ M_R_edgeOf (RI F) 15 [some (.ref a0), some (.int x1), some (.int x2), none] [.int z] st) e28 K11)
  · refine b_R_edgeOf_10  (k1 := ?_)
    exact (ite_t (P := fun z => V κ M_R_edgeOf (RI F) 15 [some (.ref a0), some (.int x1), some (.int x2), none] [.int z] st) e28 K11)
noncomputable def f_R_wayOf (κ : Ko) (a0 : Nat) (x1 : Int32) (x2 : Int32) (st : AS) : Option Int32 := bnd (f_R_facetOf κ a0 x1 x2 (2 : Int32) st) (fun v1 => bnd (f_R_facetOf κ a0 x1 x2 (3 : Int32) st) (fun v2 => some (if v1 < v2 then (1 : Int32) else (0 : Int32) : Int32)))
theorem t_R_wayOf {κ : Ko} {F : Int32 → AS → Prop} {a0 : Nat} {x1 : Int32} {x2 : Int32} {st : AS} {v : Int32} (l_a0 : ly κ a0 = (12, 36)) (h : f_R_wayOf κ a0 x1 x2 st = some v) (k : F v st) : C κ M_R_wayOf [.ref a0, .int x1, .int x2] st (RI F) := by
  unfold f_R_wayOf at h
  refine e_R_wayOf ?_
  obtain ⟨v1, h3, h⟩ := bnd_some h
  refine b_R_wayOf_0 (l_a0 := l_a0) (k1 := t_R_facetOf l_a0 h3 ?_)
  obtain ⟨v2, h4, h⟩ := bnd_some h
  refine b_R_wayOf_7 (l_a0 := l_a0) (k1 := t_R_facetOf l_a0 h4 ?_)
  have K6 : (RI F) (some (.int (if v1 < v2 then (1 : Int32) else (0 : Int32) : Int32))) st := lfIP h k
  refine b_R_wayOf_14  (k1 := fun e7 => ?_) (k2 := fun e7 => ?_)
  · exact b_R_wayOf_21  (k1 := (ite_t (P := fun z => (RI F) (some (.int z)) st) e7 K6))
  · exact b_R_wayOf_17  (k1 := (ite_f (P := fun z => (RI F) (some (.int z)) st) e7 K6))
noncomputable def f_R_facetWords (κ : Ko) (a0 : Nat) (x1 : Int32) (x2 : Int32) (x3 : Int32) (x4 : Int32) (x5 : Int32) (st : AS) : Option AS := bnd (f_R_longSide κ a0 x1 x2 st) (fun v1 => grd (vp_in (0 : Int32) 8) (bnd (f_R_shortSide κ a0 x1 x2 (ul st (a0 + 13) ((0 : Int32) : Int32).toNatClampNeg ((v1 : Int32).toInt64))) (fun v3 => grd (vp_in (1 : Int32) 8) (grd (vp_in 0 8) (grd (vp_in 1 8) (grd (vp_in 2 8) (grd (vp_in 3 8) (grd (vp_in 4 8) (bnd (f_R_edgeOf κ a0 x1 x2 (ul (ul (ul (ul (ul st (a0 + 13) ((0 : Int32) : Int32).toNatClampNeg ((v1 : Int32).toInt64)) (a0 + 13) ((1 : Int32) : Int32).toNatClampNeg ((v3 : Int32).toInt64)) (a0 + 13) (2 : Int32).toNatClampNeg ((gl (ul (ul st (a0 + 13) ((0 : Int32) : Int32).toNatClampNeg ((v1 : Int32).toInt64)) (a0 + 13) ((1 : Int32) : Int32).toNatClampNeg ((v3 : Int32).toInt64)) (a0 + 13) (0 : Int32).toNatClampNeg) * (gl (ul (ul st (a0 + 13) ((0 : Int32) : Int32).toNatClampNeg ((v1 : Int32).toInt64)) (a0 + 13) ((1 : Int32) : Int32).toNatClampNeg ((v3 : Int32).toInt64)) (a0 + 13) (1 : Int32).toNatClampNeg))) (a0 + 13) (3 : Int32).toNatClampNeg ((x3 : Int32).toInt64)) (a0 + 13) (4 : Int32).toNatClampNeg ((x4 : Int32).toInt64))) (fun v10 => grd (vp_in (5 : Int32) 8) (bnd (f_R_wayOf κ a0 x1 x2 (ul (ul (ul (ul (ul (ul st (a0 + 13) ((0 : Int32) : Int32).toNatClampNeg ((v1 : Int32).toInt64)) (a0 + 13) ((1 : Int32) : Int32).toNatClampNeg ((v3 : Int32).toInt64)) (a0 + 13) (2 : Int32).toNatClampNeg ((gl (ul (ul st (a0 + 13) ((0 : Int32) : Int32).toNatClampNeg ((v1 : Int32).toInt64)) (a0 + 13) ((1 : Int32) : Int32).toNatClampNeg ((v3 : Int32).toInt64)) (a0 + 13) (0 : Int32).toNatClampNeg) * (gl (ul (ul st (a0 + 13) ((0 : Int32) : Int32).toNatClampNeg ((v1 : Int32).toInt64)) (a0 + 13) ((1 : Int32) : Int32).toNatClampNeg ((v3 : Int32).toInt64)) (a0 + 13) (1 : Int32).toNatClampNeg))) (a0 + 13) (3 : Int32).toNatClampNeg ((x3 : Int32).toInt64)) (a0 + 13) (4 : Int32).toNatClampNeg ((x4 : Int32).toInt64)) (a0 + 13) ((5 : Int32) : Int32).toNatClampNeg ((v10 : Int32).toInt64))) (fun v12 => grd (vp_in (6 : Int32) 8) (grd (vp_in 7 8) (some (ul (ul (ul (ul (ul (ul (ul (ul st (a0 + 13) ((0 : Int32) : Int32).toNatClampNeg ((v1 : Int32).toInt64)) (a0 + 13) ((1 : Int32) : Int32).toNatClampNeg ((v3 : Int32).toInt64)) (a0 + 13) (2 : Int32).toNatClampNeg ((gl (ul (ul st (a0 + 13) ((0 : Int32) : Int32).toNatClampNeg ((v1 : Int32).toInt64)) (a0 + 13) ((1 : Int32) : Int32).toNatClampNeg ((v3 : Int32).toInt64)) (a0 + 13) (0 : Int32).toNatClampNeg) * (gl (ul (ul st (a0 + 13) ((0 : Int32) : Int32).toNatClampNeg ((v1 : Int32).toInt64)) (a0 + 13) ((1 : Int32) : Int32).toNatClampNeg ((v3 : Int32).toInt64)) (a0 + 13) (1 : Int32).toNatClampNeg))) (a0 + 13) (3 : Int32).toNatClampNeg ((x3 : Int32).toInt64)) (a0 + 13) (4 : Int32).toNatClampNeg ((x4 : Int32).toInt64)) (a0 + 13) ((5 : Int32) : Int32).toNatClampNeg ((v10 : Int32).toInt64)) (a0 + 13) ((6 : Int32) : Int32).toNatClampNeg ((v12 : Int32).toInt64)) (a0 + 13) (7 : Int32).toNatClampNeg ((x5 : Int32).toInt64))))))))))))))))
theorem t_R_facetWords {κ : Ko} {F : AS → Prop} {a0 : Nat} {x1 : Int32} {x2 : Int32} {x3 : Int32} {x4 : Int32} {x5 : Int32} {st : AS} {s' : AS} (l_a0 : ly κ a0 = (12, 36)) (h : f_R_facetWords κ a0 x1 x2 x3 x4 x5 st = some s') (k : F s') : C κ M_R_facetWords [.ref a0, .int x1, .int x2, .int x3, .int x4, .int x5] st (RV F) := by
  unfold f_R_facetWords at h
  refine e_R_facetWords ?_
  obtain ⟨v1, h15, h⟩ := bnd_some h
  refine b_R_facetWords_0 (l_a0 := l_a0) (k1 := t_R_longSide l_a0 h15 ?_)
  obtain ⟨h2, h⟩ := grd_some h
  obtain ⟨v3, h16, h⟩ := bnd_some h
  refine b_R_facetWords_11 (l_c0 := (co12 13 51 8 rfl l_a0)) (b1 := h2) (l_a0 := l_a0) (k2 := t_R_shortSide l_a0 h16 ?_)
  obtain ⟨h4, h⟩ := grd_some h
  obtain ⟨h5, h⟩ := grd_some h
  obtain ⟨h6, h⟩ := grd_some h
  obtain ⟨h7, h⟩ := grd_some h
  obtain ⟨h8, h⟩ := grd_some h
  obtain ⟨h9, h⟩ := grd_some h
  obtain ⟨v10, h17, h⟩ := bnd_some h
  refine b_R_facetWords_24 (l_c0 := (co12 13 51 8 rfl l_a0)) (b1 := h4) (l_a0 := l_a0) (b2 := h5) (b3 := h6) (b4 := h7) (b5 := h8) (b6 := h9) (k7 := t_R_edgeOf l_a0 h17 ?_)
  obtain ⟨h11, h⟩ := grd_some h
  obtain ⟨v12, h18, h⟩ := bnd_some h
  refine b_R_facetWords_73 (l_c0 := (co12 13 51 8 rfl l_a0)) (b1 := h11) (l_a0 := l_a0) (k2 := t_R_wayOf l_a0 h18 ?_)
  obtain ⟨h13, h⟩ := grd_some h
  obtain ⟨h14, h⟩ := grd_some h
  exact b_R_facetWords_87 (l_c0 := (co12 13 51 8 rfl l_a0)) (b1 := h13) (l_a0 := l_a0) (b2 := h14) (k3 := lfV h k)
noncomputable def f_R_push (κ : Ko) (a0 : Nat) (y1 : Int64) (st : AS) : Option AS := grd (vp_in (gi st a0 21) 64) (some (ui (ul st (a0 + 12) (gi st a0 21 : Int32).toNatClampNeg y1) a0 21 ((gi (ul st (a0 + 12) (gi st a0 21 : Int32).toNatClampNeg y1) a0 21) + 1)))
theorem t_R_push {κ : Ko} {F : AS → Prop} {a0 : Nat} {y1 : Int64} {st : AS} {s' : AS} (l_a0 : ly κ a0 = (12, 36)) (h : f_R_push κ a0 y1 st = some s') (k : F s') : C κ M_R_push [.ref a0, .long y1] st (RV F) := by
  unfold f_R_push at h
  refine e_R_push ?_
  obtain ⟨h1, h⟩ := grd_some h
  exact b_R_push_0 (l_a0 := l_a0) (b1 := h1) (k2 := lfV h k)
noncomputable def f_R_pop (κ : Ko) (a0 : Nat) (st : AS) : Option (Int64 × AS) := grd (vp_in (gi (ui st a0 21 ((gi st a0 21) - 1)) a0 21) 64) (some (gl (ui st a0 21 ((gi st a0 21) - 1)) (a0 + 12) (gi (ui st a0 21 ((gi st a0 21) - 1)) a0 21 : Int32).toNatClampNeg, ui st a0 21 ((gi st a0 21) - 1)))
theorem t_R_pop {κ : Ko} {F : Int64 → AS → Prop} {a0 : Nat} {st : AS} {v : Int64} {s' : AS} (l_a0 : ly κ a0 = (12, 36)) (h : f_R_pop κ a0 st = some (v, s')) (k : F v s') : C κ M_R_pop [.ref a0] st (RL F) := by
  unfold f_R_pop at h
  refine e_R_pop ?_
  obtain ⟨h1, h⟩ := grd_some h
  exact b_R_pop_0 (l_a0 := l_a0) (b1 := h1) (k2 := lfL h k)
noncomputable def f_R_one (κ : Ko) (x0 : Int32) (y1 : Int64) (y3 : Int64) (st : AS) : Option Int64 := jn (some (y1 ||| y3)) fun j2 => if x0 = 2 then some (y1 + y3) else if x0 = 3 then some (y1 - y3) else if x0 = 4 then some (y1 * y3) else if x0 = 5 then if y3 = 0 then some (0 : Int64) else grd (¬ y3 = 0) (some (y1 / y3)) else if x0 = 6 then some (if y3 ≤ y1 then (0 : Int64) else (1 : Int64) : Int64) else if x0 = 7 then some (if y3 < y1 then (0 : Int64) else (1 : Int64) : Int64) else if x0 = 8 then some (if y1 = y3 then (1 : Int64) else (0 : Int64) : Int64) else if x0 = 9 then some (if y1 < y3 then (0 : Int64) else (1 : Int64) : Int64) else if x0 = 10 then some (if y1 ≤ y3 then (0 : Int64) else (1 : Int64) : Int64) else if x0 = 11 then j2 else if x0 = 12 then some (y1 &&& y3) else j2
theorem t_R_one {κ : Ko} {F : Int64 → AS → Prop} {x0 : Int32} {y1 : Int64} {y3 : Int64} {st : AS} {v : Int64} (h : f_R_one κ x0 y1 y3 st = some v) (k : F v st) : C κ M_R_one [.int x0, .long y1, .long y3] st (RL F) := by
  unfold f_R_one at h
  refine e_R_one ?_
  obtain ⟨j2, hdj2, h⟩ := jn_some h
  have hj2 : j2 = some v → V κ M_R_one (RL F) 150 [none, some (.long y1), none, some (.long y3), none] [] st := by
    intro h
    rw [hdj2] at h
    exact b_R_one_150  (k1 := lfLP h k)
  clear hdj2
  refine b_R_one_0  (k1 := fun e3 => ?_) (k2 := fun e3 => ?_) (k3 := fun e3 => ?_) (k4 := fun e3 => ?_) (k5 := fun e3 => ?_) (k6 := fun e3 => ?_) (k7 := fun e3 => ?_) (k8 := fun e3 => ?_) (k9 := fun e3 => ?_) (k10 := fun e3 => ?_) (k11 := fun e3 => ?_) (k12 := fun e3 => ?_)
  · replace h := if_t e3 h
    exact b_R_one_60  (k1 := lfLP h k)
  · replace h := if_f (fun z => by rw [z] at e3; exact absurd e3 (by decide)) h
    replace h := if_t e3 h
    exact b_R_one_64  (k1 := lfLP h k)
  · replace h := if_f (fun z => by rw [z] at e3; exact absurd e3 (by decide)) h
    replace h := if_f (fun z => by rw [z] at e3; exact absurd e3 (by decide)) h
    replace h := if_t e3 h
    exact b_R_one_68  (k1 := lfLP h k)
  · replace h := if_f (fun z => by rw [z] at e3; exact absurd e3 (by decide)) h
    replace h := if_f (fun z => by rw [z] at e3; exact absurd e3 (by decide)) h
    replace h := if_f (fun z => by rw [z] at e3; exact absurd e3 (by decide)) h
    replace h := if_t e3 h
    refine b_R_one_72  (k1 := fun e4 => ?_) (k2 := fun e4 => ?_)
    · replace h := if_f e4 h
      obtain ⟨h1, h⟩ := grd_some h
      exact b_R_one_82 (z1 := h1) (k2 := lfLP h k)
    · replace h := if_t e4 h
      exact b_R_one_78  (k1 := lfLP h k)
  · replace h := if_f (fun z => by rw [z] at e3; exact absurd e3 (by decide)) h
    replace h := if_f (fun z => by rw [z] at e3; exact absurd e3 (by decide)) h
    replace h := if_f (fun z => by rw [z] at e3; exact absurd e3 (by decide)) h
    replace h := if_f (fun z => by rw [z] at e3; exact absurd e3 (by decide)) h
    replace h := if_t e3 h
    have K6 : (RL F) (some (.long (if y3 ≤ y1 then (0 : Int64) else (1 : Int64) : Int64))) st := lfLP h k
    refine b_R_one_86  (k1 := fun e7 => ?_) (k2 := fun e7 => ?_)
    · exact b_R_one_96  (k1 := (ite_t (P := fun z => (RL F) (some (.long z)) st) e7 K6))
    · exact b_R_one_92  (k1 := (ite_f (P := fun z => (RL F) (some (.long z)) st) e7 K6))
  · replace h := if_f (fun z => by rw [z] at e3; exact absurd e3 (by decide)) h
    replace h := if_f (fun z => by rw [z] at e3; exact absurd e3 (by decide)) h
    replace h := if_f (fun z => by rw [z] at e3; exact absurd e3 (by decide)) h
    replace h := if_f (fun z => by rw [z] at e3; exact absurd e3 (by decide)) h
    replace h := if_f (fun z => by rw [z] at e3; exact absurd e3 (by decide)) h
    replace h := if_t e3 h
    have K9 : (RL F) (some (.long (if y3 < y1 then (0 : Int64) else (1 : Int64) : Int64))) st := lfLP h k
    refine b_R_one_98  (k1 := fun e10 => ?_) (k2 := fun e10 => ?_)
    · exact b_R_one_108  (k1 := (ite_t (P := fun z => (RL F) (some (.long z)) st) e10 K9))
    · exact b_R_one_104  (k1 := (ite_f (P := fun z => (RL F) (some (.long z)) st) e10 K9))
  · replace h := if_f (fun z => by rw [z] at e3; exact absurd e3 (by decide)) h
    replace h := if_f (fun z => by rw [z] at e3; exact absurd e3 (by decide)) h
    replace h := if_f (fun z => by rw [z] at e3; exact absurd e3 (by decide)) h
    replace h := if_f (fun z => by rw [z] at e3; exact absurd e3 (by decide)) h
    replace h := if_f (fun z => by rw [z] at e3; exact absurd e3 (by decide)) h
    replace h := if_f (fun z => by rw [z] at e3; exact absurd e3 (by decide)) h
    replace h := if_t e3 h
    have K12 : (RL F) (some (.long (if y1 = y3 then (1 : Int64) else (0 : Int64) : Int64))) st := lfLP h k
    refine b_R_one_110  (k1 := fun e13 => ?_) (k2 := fun e13 => ?_)
    · exact b_R_one_120  (k1 := (ite_f (P := fun z => (RL F) (some (.long z)) st) e13 K12))
    · exact b_R_one_116  (k1 := (ite_t (P := fun z => (RL F) (some (.long z)) st) e13 K12))
  · replace h := if_f (fun z => by rw [z] at e3; exact absurd e3 (by decide)) h
    replace h := if_f (fun z => by rw [z] at e3; exact absurd e3 (by decide)) h
    replace h := if_f (fun z => by rw [z] at e3; exact absurd e3 (by decide)) h
    replace h := if_f (fun z => by rw [z] at e3; exact absurd e3 (by decide)) h
    replace h := if_f (fun z => by rw [z] at e3; exact absurd e3 (by decide)) h
    replace h := if_f (fun z => by rw [z] at e3; exact absurd e3 (by decide)) h
    replace h := if_f (fun z => by rw [z] at e3; exact absurd e3 (by decide)) h
    replace h := if_t e3 h
    have K15 : (RL F) (some (.long (if y1 < y3 then (0 : Int64) else (1 : Int64) : Int64))) st := lfLP h k
    refine b_R_one_122  (k1 := fun e16 => ?_) (k2 := fun e16 => ?_)
    · exact b_R_one_132  (k1 := (ite_t (P := fun z => (RL F) (some (.long z)) st) e16 K15))
    · exact b_R_one_128  (k1 := (ite_f (P := fun z => (RL F) (some (.long z)) st) e16 K15))
  · replace h := if_f (fun z => by rw [z] at e3; exact absurd e3 (by decide)) h
    replace h := if_f (fun z => by rw [z] at e3; exact absurd e3 (by decide)) h
    replace h := if_f (fun z => by rw [z] at e3; exact absurd e3 (by decide)) h
    replace h := if_f (fun z => by rw [z] at e3; exact absurd e3 (by decide)) h
    replace h := if_f (fun z => by rw [z] at e3; exact absurd e3 (by decide)) h
    replace h := if_f (fun z => by rw [z] at e3; exact absurd e3 (by decide)) h
    replace h := if_f (fun z => by rw [z] at e3; exact absurd e3 (by decide)) h
    replace h := if_f (fun z => by rw [z] at e3; exact absurd e3 (by decide)) h
    replace h := if_t e3 h
    have K18 : (RL F) (some (.long (if y1 ≤ y3 then (0 : Int64) else (1 : Int64) : Int64))) st := lfLP h k
    refine b_R_one_134  (k1 := fun e19 => ?_) (k2 := fun e19 => ?_)
    · exact b_R_one_144  (k1 := (ite_t (P := fun z => (RL F) (some (.long z)) st) e19 K18))
    · exact b_R_one_140  (k1 := (ite_f (P := fun z => (RL F) (some (.long z)) st) e19 K18))
  · replace h := if_f (fun z => by rw [z] at e3; exact absurd e3 (by decide)) h
    replace h := if_f (fun z => by rw [z] at e3; exact absurd e3 (by decide)) h
    replace h := if_f (fun z => by rw [z] at e3; exact absurd e3 (by decide)) h
    replace h := if_f (fun z => by rw [z] at e3; exact absurd e3 (by decide)) h
    replace h := if_f (fun z => by rw [z] at e3; exact absurd e3 (by decide)) h
    replace h := if_f (fun z => by rw [z] at e3; exact absurd e3 (by decide)) h
    replace h := if_f (fun z => by rw [z] at e3; exact absurd e3 (by decide)) h
    replace h := if_f (fun z => by rw [z] at e3; exact absurd e3 (by decide)) h
    replace h := if_f (fun z => by rw [z] at e3; exact absurd e3 (by decide)) h
    replace h := if_t e3 h
    exact hj2  h
  · replace h := if_f (fun z => by rw [z] at e3; exact absurd e3 (by decide)) h
    replace h := if_f (fun z => by rw [z] at e3; exact absurd e3 (by decide)) h
    replace h := if_f (fun z => by rw [z] at e3; exact absurd e3 (by decide)) h
    replace h := if_f (fun z => by rw [z] at e3; exact absurd e3 (by decide)) h
    replace h := if_f (fun z => by rw [z] at e3; exact absurd e3 (by decide)) h
    replace h := if_f (fun z => by rw [z] at e3; exact absurd e3 (by decide)) h
    replace h := if_f (fun z => by rw [z] at e3; exact absurd e3 (by decide)) h
    replace h := if_f (fun z => by rw [z] at e3; exact absurd e3 (by decide)) h
    replace h := if_f (fun z => by rw [z] at e3; exact absurd e3 (by decide)) h
    replace h := if_f (fun z => by rw [z] at e3; exact absurd e3 (by decide)) h
    replace h := if_t e3 h
    exact b_R_one_146  (k1 := lfLP h k)
  · replace h := if_f (fun z => by rw [z] at e3; exact absurd e3 (by decide)) h
    replace h := if_f (fun z => by rw [z] at e3; exact absurd e3 (by decide)) h
    replace h := if_f (fun z => by rw [z] at e3; exact absurd e3 (by decide)) h
    replace h := if_f (fun z => by rw [z] at e3; exact absurd e3 (by decide)) h
    replace h := if_f (fun z => by rw [z] at e3; exact absurd e3 (by decide)) h
    replace h := if_f (fun z => by rw [z] at e3; exact absurd e3 (by decide)) h
    replace h := if_f (fun z => by rw [z] at e3; exact absurd e3 (by decide)) h
    replace h := if_f (fun z => by rw [z] at e3; exact absurd e3 (by decide)) h
    replace h := if_f (fun z => by rw [z] at e3; exact absurd e3 (by decide)) h
    replace h := if_f (fun z => by rw [z] at e3; exact absurd e3 (by decide)) h
    replace h := if_f (fun z => by rw [z] at e3; exact absurd e3 (by decide)) h
    exact hj2  h
noncomputable def L_R_reckons_8 (κ : Ko) (k_135 : Nat → AS → Option (Int64 × AS)) : Nat → Nat → Int32 → Int32 → Int32 → AS → Option (Int64 × AS)
  | 0, _, _, _, _, _ => none
  | d + 1, a0, x1, x3, x4, st => if x3 ≤ x4 then k_135 a0 st else grd (vp_in (((400 : Int32) * x1) + x4) 7200) (grd (vp_in (((400 : Int32) * x1) + x4) 7200) (if ((gi st (a0 + 3) (((400 : Int32) * x1) + x4 : Int32).toNatClampNeg) &&& 15) = 0 then bnd (f_R_push κ a0 ((((gi st (a0 + 3) (((400 : Int32) * x1) + x4 : Int32).toNatClampNeg) >>> ((4 : Int32) &&& 31)) : Int32).toInt64) st) (fun s14 => L_R_reckons_8 κ k_135 d a0 x1 x3 (x4 + 1) s14) else if ((gi st (a0 + 3) (((400 : Int32) * x1) + x4 : Int32).toNatClampNeg) &&& 15) = 1 then grd (vp_in ((gi st (a0 + 3) (((400 : Int32) * x1) + x4 : Int32).toNatClampNeg) >>> ((4 : Int32) &&& 31)) 8) (bnd (f_R_push κ a0 (gl st (a0 + 13) (((gi st (a0 + 3) (((400 : Int32) * x1) + x4 : Int32).toNatClampNeg) >>> ((4 : Int32) &&& 31)) : Int32).toNatClampNeg) st) (fun s13 => L_R_reckons_8 κ k_135 d a0 x1 x3 (x4 + 1) s13)) else if ((gi st (a0 + 3) (((400 : Int32) * x1) + x4 : Int32).toNatClampNeg) &&& 15) = 11 then bnd2 (f_R_pop κ a0 st) (fun v9 s10 => bnd (f_R_push κ a0 ((1 : Int64) - v9) s10) (fun s11 => L_R_reckons_8 κ k_135 d a0 x1 x3 (x4 + 1) s11)) else bnd2 (f_R_pop κ a0 st) (fun v3 s4 => bnd2 (f_R_pop κ a0 s4) (fun v5 s6 => bnd (f_R_one κ ((gi st (a0 + 3) (((400 : Int32) * x1) + x4 : Int32).toNatClampNeg) &&& 15) v5 v3 s6) (fun v7 => bnd (f_R_push κ a0 v7 s6) (fun s8 => L_R_reckons_8 κ k_135 d a0 x1 x3 (x4 + 1) s8))))))
noncomputable def f_R_reckons (κ : Ko) (a0 : Nat) (x1 : Int32) (x2 : Int32) (x3 : Int32) (st : AS) : Option (Int64 × AS) := L_R_reckons_8 κ (fun (v27 : Nat) (s29 : AS) => bnd2 (f_R_pop κ v27 s29) (fun v30 s31 => some (v30, s31))) FU a0 x1 x3 x2 (ui st a0 21 0)
theorem l_R_reckons_8 {κ : Ko} {F : Int64 → AS → Prop} {v : Int64} {s' : AS} (k : F v s') {k_135 : Nat → AS → Option (Int64 × AS)} (hk_135 : ∀ (a0 : Nat) (st : AS), ly κ a0 = (12, 36) → k_135 a0 st = some (v, s') → V κ M_R_reckons (RL F) 135 [some (.ref a0), none, none, none, none, none, none, none, none, none, none] [] st) : ∀ (d : Nat) (a0 : Nat) (x1 : Int32) (x3 : Int32) (x4 : Int32) (st : AS), ly κ a0 = (12, 36) → L_R_reckons_8 κ k_135 d a0 x1 x3 x4 st = some (v, s') → V κ M_R_reckons (RL F) 8 [some (.ref a0), some (.int x1), none, some (.int x3), some (.int x4), none, none, none, none, none, none] [] st := by
  intro d
  induction d with
  | zero =>
    intro a0 x1 x3 x4 st l_a0 h
    exact nn_some h
  | succ d ih =>
    intro a0 x1 x3 x4 st l_a0 h
    rw [L_R_reckons_8] at h
    refine b_R_reckons_8  (k1 := fun e15 => ?_) (k2 := fun e15 => ?_)
    · replace h := if_t e15 h
      exact hk_135 _ _ l_a0 h
    · replace h := if_f e15 h
      obtain ⟨h1, h⟩ := grd_some h
      obtain ⟨h2, h⟩ := grd_some h
      refine b_R_reckons_14 (l_a0 := l_a0) (b1 := h1) (b2 := h2) (k3 := fun e16 => ?_) (k4 := fun e16 => ?_)
      · replace h := if_f e16 h
        refine b_R_reckons_64  (k1 := fun e17 => ?_) (k2 := fun e17 => ?_)
        · replace h := if_f e17 h
          refine b_R_reckons_84  (k1 := fun e18 => ?_) (k2 := fun e18 => ?_)
          · replace h := if_f e18 h
            obtain ⟨v3, s4, h19, h⟩ := bnd2_some h
            refine b_R_reckons_104 (l_a0 := l_a0) (k1 := t_R_pop l_a0 h19 ?_)
            obtain ⟨v5, s6, h20, h⟩ := bnd2_some h
            refine b_R_reckons_108 (l_a0 := l_a0) (k1 := t_R_pop l_a0 h20 ?_)
            obtain ⟨v7, h21, h⟩ := bnd_some h
            refine b_R_reckons_114  (k1 := t_R_one  h21 ?_)
            obtain ⟨s8, h22, h⟩ := bnd_some h
            refine b_R_reckons_126 (l_c0 := l_a0) (k1 := t_R_push l_a0 h22 ?_)
            refine b_R_reckons_129  (k1 := ?_)
            exact ih _ _ _ _ _ l_a0 h
          · replace h := if_t e18 h
            obtain ⟨v9, s10, h23, h⟩ := bnd2_some h
            refine b_R_reckons_91 (l_a0 := l_a0) (k1 := t_R_pop l_a0 h23 ?_)
            obtain ⟨s11, h24, h⟩ := bnd_some h
            refine b_R_reckons_97 (l_c0 := l_a0) (k1 := t_R_push l_a0 h24 ?_)
            refine b_R_reckons_101  (k1 := ?_)
            exact ih _ _ _ _ _ l_a0 h
        · replace h := if_t e17 h
          obtain ⟨h12, h⟩ := grd_some h
          obtain ⟨s13, h25, h⟩ := bnd_some h
          refine b_R_reckons_70 (l_a0 := l_a0) (b1 := h12) (k2 := t_R_push l_a0 h25 ?_)
          refine b_R_reckons_81  (k1 := ?_)
          exact ih _ _ _ _ _ l_a0 h
      · replace h := if_t e16 h
        obtain ⟨s14, h26, h⟩ := bnd_some h
        refine b_R_reckons_54 (l_a0 := l_a0) (k1 := t_R_push l_a0 h26 ?_)
        refine b_R_reckons_61  (k1 := ?_)
        exact ih _ _ _ _ _ l_a0 h
theorem t_R_reckons {κ : Ko} {F : Int64 → AS → Prop} {a0 : Nat} {x1 : Int32} {x2 : Int32} {x3 : Int32} {st : AS} {v : Int64} {s' : AS} (l_a0 : ly κ a0 = (12, 36)) (h : f_R_reckons κ a0 x1 x2 x3 st = some (v, s')) (k : F v s') : C κ M_R_reckons [.ref a0, .int x1, .int x2, .int x3] st (RL F) := by
  unfold f_R_reckons at h
  refine e_R_reckons ?_
  refine b_R_reckons_0 (l_a0 := l_a0) (k1 := ?_)
  refine l_R_reckons_8 k ?_ FU _ _ _ _ _ l_a0 h
  · intro v27 s29 l28 h
    obtain ⟨v30, s31, h32, h⟩ := bnd2_some h
    refine b_R_reckons_135 (l_a0 := l28) (k1 := t_R_pop l28 h32 ?_)
    exact b_R_reckons_139  (k1 := lfL h k)
noncomputable def f_R_isHolding (κ : Ko) (a0 : Nat) (x1 : Int32) (x2 : Int32) (st : AS) : Option (Int32 × AS) := jn (fun (s7 : AS) => some ((1 : Int32), s7)) fun j6 => grd (vp_in ((((60 : Int32) * x1) + ((5 : Int32) * x2)) + 3) 1080) (if (gi st (a0 + 5) ((((60 : Int32) * x1) + ((5 : Int32) * x2)) + 3 : Int32).toNatClampNeg) < 0 then j6 st else grd (vp_in ((((60 : Int32) * x1) + ((5 : Int32) * x2)) + 3) 1080) (grd (vp_in ((((60 : Int32) * x1) + ((5 : Int32) * x2)) + 4) 1080) (bnd2 (f_R_reckons κ a0 x1 (gi st (a0 + 5) ((((60 : Int32) * x1) + ((5 : Int32) * x2)) + 3 : Int32).toNatClampNeg) (gi st (a0 + 5) ((((60 : Int32) * x1) + ((5 : Int32) * x2)) + 4 : Int32).toNatClampNeg) st) (fun v4 s5 => if v4 = 1 then j6 s5 else some ((0 : Int32), s5)))))
theorem t_R_isHolding {κ : Ko} {F : Int32 → AS → Prop} {a0 : Nat} {x1 : Int32} {x2 : Int32} {st : AS} {v : Int32} {s' : AS} (l_a0 : ly κ a0 = (12, 36)) (h : f_R_isHolding κ a0 x1 x2 st = some (v, s')) (k : F v s') : C κ M_R_isHolding [.ref a0, .int x1, .int x2] st (RI F) := by
  unfold f_R_isHolding at h
  refine e_R_isHolding ?_
  obtain ⟨j6, hdj6, h⟩ := jn_some h
  have hj6 : ∀ (s7 : AS), j6 s7 = some (v, s') → V κ M_R_isHolding (RI F) 46 [none, none, none, none] [] s7 := by
    intro s7 h
    rw [hdj6] at h
    exact b_R_isHolding_46  (k1 := lfI h k)
  clear hdj6
  obtain ⟨h1, h⟩ := grd_some h
  refine b_R_isHolding_0 (l_a0 := l_a0) (b1 := h1) (k2 := fun e8 => ?_) (k3 := fun e8 => ?_)
  · replace h := if_t e8 h
    exact hj6 _  h
  · replace h := if_f e8 h
    obtain ⟨h2, h⟩ := grd_some h
    obtain ⟨h3, h⟩ := grd_some h
    obtain ⟨v4, s5, h9, h⟩ := bnd2_some h
    refine b_R_isHolding_20 (l_a0 := l_a0) (b1 := h2) (b2 := h3) (k3 := t_R_reckons l_a0 h9 ?_)
    refine b_R_isHolding_41  (k1 := fun e10 => ?_) (k2 := fun e10 => ?_)
    · replace h := if_f e10 h
      exact b_R_isHolding_50  (k1 := lfI h k)
    · replace h := if_t e10 h
      exact hj6 _  h
noncomputable def L_R_clauseThat_2 (κ : Ko) : Nat → Nat → Int32 → Int32 → Int32 → AS → Option (Int32 × AS)
  | 0, _, _, _, _, _ => none
  | d + 1, a0, x1, x2, x3, st => grd (vp_in x1 18) (if (gi st (a0 + 6) (x1 : Int32).toNatClampNeg) ≤ x3 then some (((-1) : Int32), st) else jn (fun (s6 : AS) => L_R_clauseThat_2 κ  d a0 x1 x2 (x3 + 1) s6) fun j5 => grd (vp_in (((60 : Int32) * x1) + ((5 : Int32) * x3)) 1080) (if (gi st (a0 + 5) (((60 : Int32) * x1) + ((5 : Int32) * x3) : Int32).toNatClampNeg) = x2 then bnd2 (f_R_isHolding κ a0 x1 x3 st) (fun v3 s4 => if v3 = 0 then j5 s4 else some (x3, s4)) else j5 st))
noncomputable def f_R_clauseThat (κ : Ko) (a0 : Nat) (x1 : Int32) (x2 : Int32) (st : AS) : Option (Int32 × AS) := L_R_clauseThat_2 κ  FU a0 x1 x2 (0 : Int32) st
theorem l_R_clauseThat_2 {κ : Ko} {F : Int32 → AS → Prop} {v : Int32} {s' : AS} (k : F v s') : ∀ (d : Nat) (a0 : Nat) (x1 : Int32) (x2 : Int32) (x3 : Int32) (st : AS), ly κ a0 = (12, 36) → L_R_clauseThat_2 κ  d a0 x1 x2 x3 st = some (v, s') → V κ M_R_clauseThat (RI F) 2 [some (.ref a0), some (.int x1), some (.int x2), some (.int x3)] [] st := by
  intro d
  induction d with
  | zero =>
    intro a0 x1 x2 x3 st l_a0 h
    exact nn_some h
  | succ d ih =>
    intro a0 x1 x2 x3 st l_a0 h
    rw [L_R_clauseThat_2] at h
    obtain ⟨h1, h⟩ := grd_some h
    refine b_R_clauseThat_2 (l_a0 := l_a0) (b1 := h1) (k2 := fun e7 => ?_) (k3 := fun e7 => ?_)
    · replace h := if_t e7 h
      exact b_R_clauseThat_46  (k1 := lfI h k)
    · replace h := if_f e7 h
      obtain ⟨j5, hdj5, h⟩ := jn_some h
      have hj5 : ∀ (s6 : AS), j5 s6 = some (v, s') → V κ M_R_clauseThat (RI F) 40 [some (.ref a0), some (.int x1), some (.int x2), some (.int x3)] [] s6 := by
        intro s6 h
        rw [hdj5] at h
        refine b_R_clauseThat_40  (k1 := ?_)
        exact ih _ _ _ _ _ l_a0 h
      clear hdj5
      obtain ⟨h2, h⟩ := grd_some h
      refine b_R_clauseThat_12 (l_a0 := l_a0) (b1 := h2) (k2 := fun e8 => ?_) (k3 := fun e8 => ?_)
      · replace h := if_f e8 h
        exact hj5 _  h
      · replace h := if_t e8 h
        obtain ⟨v3, s4, h9, h⟩ := bnd2_some h
        refine b_R_clauseThat_29 (l_a0 := l_a0) (k1 := t_R_isHolding l_a0 h9 ?_)
        refine b_R_clauseThat_35  (k1 := fun e10 => ?_) (k2 := fun e10 => ?_)
        · replace h := if_t e10 h
          exact hj5 _  h
        · replace h := if_f e10 h
          exact b_R_clauseThat_38  (k1 := lfI h k)
theorem t_R_clauseThat {κ : Ko} {F : Int32 → AS → Prop} {a0 : Nat} {x1 : Int32} {x2 : Int32} {st : AS} {v : Int32} {s' : AS} (l_a0 : ly κ a0 = (12, 36)) (h : f_R_clauseThat κ a0 x1 x2 st = some (v, s')) (k : F v s') : C κ M_R_clauseThat [.ref a0, .int x1, .int x2] st (RI F) := by
  unfold f_R_clauseThat at h
  refine e_R_clauseThat ?_
  refine b_R_clauseThat_0  (k1 := ?_)
  refine l_R_clauseThat_2 k FU _ _ _ _ _ l_a0 h
noncomputable def f_R_summed (κ : Ko) (a0 : Nat) (x1 : Int32) (x2 : Int32) (st : AS) : Option (Int64 × AS) := grd (vp_in ((((60 : Int32) * x1) + ((5 : Int32) * x2)) + 1) 1080) (grd (vp_in ((((60 : Int32) * x1) + ((5 : Int32) * x2)) + 2) 1080) (bnd2 (f_R_reckons κ a0 x1 (gi st (a0 + 5) ((((60 : Int32) * x1) + ((5 : Int32) * x2)) + 1 : Int32).toNatClampNeg) (gi st (a0 + 5) ((((60 : Int32) * x1) + ((5 : Int32) * x2)) + 2 : Int32).toNatClampNeg) st) (fun v3 s4 => some (v3, s4))))
theorem t_R_summed {κ : Ko} {F : Int64 → AS → Prop} {a0 : Nat} {x1 : Int32} {x2 : Int32} {st : AS} {v : Int64} {s' : AS} (l_a0 : ly κ a0 = (12, 36)) (h : f_R_summed κ a0 x1 x2 st = some (v, s')) (k : F v s') : C κ M_R_summed [.ref a0, .int x1, .int x2] st (RL F) := by
  unfold f_R_summed at h
  refine e_R_summed ?_
  obtain ⟨h1, h⟩ := grd_some h
  obtain ⟨h2, h⟩ := grd_some h
  obtain ⟨v3, s4, h5, h⟩ := bnd2_some h
  refine b_R_summed_0 (l_a0 := l_a0) (b1 := h1) (b2 := h2) (k3 := t_R_reckons l_a0 h5 ?_)
  exact b_R_summed_35  (k1 := lfL h k)
noncomputable def f_R_breaks (κ : Ko) (a0 : Nat) (x1 : Int32) (st : AS) : Option (Int32 × AS) := bnd2 (f_R_clauseThat κ a0 x1 (0 : Int32) st) (fun v1 s2 => if 0 ≤ v1 then bnd2 (f_R_summed κ a0 x1 v1 s2) (fun v3 s4 => some (((lbnd v3 (0 : Int64) (1000 : Int64)) : Int64).toInt32, s4)) else some ((0 : Int32), s2))
theorem t_R_breaks {κ : Ko} {F : Int32 → AS → Prop} {a0 : Nat} {x1 : Int32} {st : AS} {v : Int32} {s' : AS} (l_a0 : ly κ a0 = (12, 36)) (h : f_R_breaks κ a0 x1 st = some (v, s')) (k : F v s') : C κ M_R_breaks [.ref a0, .int x1] st (RI F) := by
  unfold f_R_breaks at h
  refine e_R_breaks ?_
  obtain ⟨v1, s2, h5, h⟩ := bnd2_some h
  refine b_R_breaks_0 (l_a0 := l_a0) (k1 := t_R_clauseThat l_a0 h5 ?_)
  refine b_R_breaks_6  (k1 := fun e6 => ?_) (k2 := fun e6 => ?_)
  · replace h := if_t e6 h
    obtain ⟨v3, s4, h7, h⟩ := bnd2_some h
    refine b_R_breaks_15 (l_a0 := l_a0) (k1 := t_R_summed l_a0 h7 ?_)
    refine b_R_breaks_21  (k1 := t_R_bounded  rfl ?_)
    exact b_R_breaks_28  (k1 := lfI h k)
  · replace h := if_f e6 h
    exact b_R_breaks_11  (k1 := lfI h k)
noncomputable def L_R_expects_13 (κ : Ko) : Nat → Nat → Int32 → Int32 → Int32 → Int32 → Int32 → Int32 → AS → Option (Int32 × AS)
  | 0, _, _, _, _, _, _, _, _ => none
  | d + 1, a0, x1, x2, x3, x4, x5, x6, st => bnd (f_R_sheetOf κ a0 x1 (6 : Int32) st) (fun v2 => if v2 ≤ x6 then some (x5, st) else bnd (f_R_longSide κ a0 x1 x6 st) (fun v3 => if 2 ≤ v3 then bnd (f_R_sheetOf κ a0 x1 (5 : Int32) st) (fun v4 => bnd (f_R_facetWords κ a0 x1 x6 (v4 + 1) x2 x4 st) (fun s5 => bnd (f_R_sheetOf κ a0 x1 (2 : Int32) s5) (fun v6 => bnd2 (f_R_breaks κ a0 v6 s5) (fun v7 s8 => if x3 = 0 then bnd (f_R_shortSide κ a0 x1 x6 s8) (fun v9 => L_R_expects_13 κ  d a0 x1 x2 x3 x4 (x5 + (v7 * v9)) (x6 + 1) s8) else L_R_expects_13 κ  d a0 x1 x2 x3 x4 (x5 + (v7 * 1)) (x6 + 1) s8)))) else L_R_expects_13 κ  d a0 x1 x2 x3 x4 x5 (x6 + 1) st))
noncomputable def f_R_expects (κ : Ko) (a0 : Nat) (x1 : Int32) (x2 : Int32) (x3 : Int32) (st : AS) : Option (Int32 × AS) := bnd (f_R_together κ a0 x1 st) (fun v1 => L_R_expects_13 κ  FU a0 x1 x2 x3 v1 (0 : Int32) (0 : Int32) st)
theorem l_R_expects_13 {κ : Ko} {F : Int32 → AS → Prop} {v : Int32} {s' : AS} (k : F v s') : ∀ (d : Nat) (a0 : Nat) (x1 : Int32) (x2 : Int32) (x3 : Int32) (x4 : Int32) (x5 : Int32) (x6 : Int32) (st : AS), ly κ a0 = (12, 36) → L_R_expects_13 κ  d a0 x1 x2 x3 x4 x5 x6 st = some (v, s') → V κ M_R_expects (RI F) 13 [some (.ref a0), some (.int x1), some (.int x2), some (.int x3), some (.int x4), some (.int x5), some (.int x6)] [] st := by
  intro d
  induction d with
  | zero =>
    intro a0 x1 x2 x3 x4 x5 x6 st l_a0 h
    exact nn_some h
  | succ d ih =>
    intro a0 x1 x2 x3 x4 x5 x6 st l_a0 h
    rw [L_R_expects_13] at h
    obtain ⟨v2, h10, h⟩ := bnd_some h
    refine b_R_expects_13 (l_a0 := l_a0) (k1 := t_R_sheetOf l_a0 h10 ?_)
    refine b_R_expects_22  (k1 := fun e11 => ?_) (k2 := fun e11 => ?_)
    · replace h := if_t e11 h
      exact b_R_expects_94  (k1 := lfI h k)
    · replace h := if_f e11 h
      obtain ⟨v3, h12, h⟩ := bnd_some h
      refine b_R_expects_25 (l_a0 := l_a0) (k1 := t_R_longSide l_a0 h12 ?_)
      refine b_R_expects_32  (k1 := fun e13 => ?_) (k2 := fun e13 => ?_)
      · replace h := if_t e13 h
        obtain ⟨v4, h14, h⟩ := bnd_some h
        refine b_R_expects_39 (l_a0 := l_a0) (k1 := t_R_sheetOf l_a0 h14 ?_)
        obtain ⟨s5, h15, h⟩ := bnd_some h
        refine b_R_expects_49 (l_c0 := l_a0) (k1 := t_R_facetWords l_a0 h15 ?_)
        obtain ⟨v6, h16, h⟩ := bnd_some h
        refine b_R_expects_57 (l_a0 := l_a0) (k1 := t_R_sheetOf l_a0 h16 ?_)
        obtain ⟨v7, s8, h17, h⟩ := bnd2_some h
        refine b_R_expects_66 (l_c1 := l_a0) (k1 := t_R_breaks l_a0 h17 ?_)
        refine b_R_expects_69  (k1 := fun e18 => ?_) (k2 := fun e18 => ?_)
        · replace h := if_f e18 h
          refine b_R_expects_83  (k1 := ?_)
          exact ih _ _ _ _ _ _ _ _ l_a0 h
        · replace h := if_t e18 h
          obtain ⟨v9, h19, h⟩ := bnd_some h
          refine b_R_expects_73 (l_a0 := l_a0) (k1 := t_R_shortSide l_a0 h19 ?_)
          refine b_R_expects_80  (k1 := ?_)
          exact ih _ _ _ _ _ _ _ _ l_a0 h
      · replace h := if_f e13 h
        refine b_R_expects_36  (k1 := ?_)
        exact ih _ _ _ _ _ _ _ _ l_a0 h
theorem t_R_expects {κ : Ko} {F : Int32 → AS → Prop} {a0 : Nat} {x1 : Int32} {x2 : Int32} {x3 : Int32} {st : AS} {v : Int32} {s' : AS} (l_a0 : ly κ a0 = (12, 36)) (h : f_R_expects κ a0 x1 x2 x3 st = some (v, s')) (k : F v s') : C κ M_R_expects [.ref a0, .int x1, .int x2, .int x3] st (RI F) := by
  unfold f_R_expects at h
  refine e_R_expects ?_
  obtain ⟨v1, h20, h⟩ := bnd_some h
  refine b_R_expects_0 (l_a0 := l_a0) (k1 := t_R_together l_a0 h20 ?_)
  refine b_R_expects_5  (k1 := ?_)
  refine l_R_expects_13 k FU _ _ _ _ _ _ _ _ l_a0 h
noncomputable def f_R_draw (κ : Ko) (a0 : Nat) (x1 : Int32) (st : AS) : Option (Int32 × AS) := grd (vp_in (((3680 : Int32) * x1) + 4) 25760) (grd (vp_in (((3680 : Int32) * x1) + 4) 25760) (some (((((((gi st (a0 + 14) (((3680 : Int32) * x1) + 4 : Int32).toNatClampNeg : Int32).toInt64) * 1103515245) + 12345) - ((((gi st (a0 + 14) (((3680 : Int32) * x1) + 4 : Int32).toNatClampNeg : Int32).toInt64) * 1103515245) + 12345) / 2147483648 * 2147483648) / 65536 : Int64).toInt32, ui st (a0 + 14) (((3680 : Int32) * x1) + 4 : Int32).toNatClampNeg ((((((gi st (a0 + 14) (((3680 : Int32) * x1) + 4 : Int32).toNatClampNeg : Int32).toInt64) * 1103515245) + 12345) - ((((gi st (a0 + 14) (((3680 : Int32) * x1) + 4 : Int32).toNatClampNeg : Int32).toInt64) * 1103515245) + 12345) / 2147483648 * 2147483648 : Int64).toInt32))))
theorem t_R_draw {κ : Ko} {F : Int32 → AS → Prop} {a0 : Nat} {x1 : Int32} {st : AS} {v : Int32} {s' : AS} (l_a0 : ly κ a0 = (12, 36)) (h : f_R_draw κ a0 x1 st = some (v, s')) (k : F v s') : C κ M_R_draw [.ref a0, .int x1] st (RI F) := by
  unfold f_R_draw at h
  refine e_R_draw ?_
  obtain ⟨h1, h⟩ := grd_some h
  obtain ⟨h2, h⟩ := grd_some h
  exact b_R_draw_0 (l_a0 := l_a0) (b1 := h1) (b2 := h2) (k3 := lfI h k)
noncomputable def f_R_ridgeComes (κ : Ko) (a0 : Nat) (x1 : Int32) (x2 : Int32) (x3 : Int32) (x4 : Int32) (x5 : Int32) (x6 : Int32) (st : AS) : Option AS := bnd (f_R_sheetOf κ a0 x1 (7 : Int32) st) (fun v1 => grd (vp_in ((((3680 : Int32) * x1) + 810) + ((7 : Int32) * v1)) 25760) (grd (vp_in (((((3680 : Int32) * x1) + 810) + ((7 : Int32) * v1)) + 1) 25760) (grd (vp_in (((((3680 : Int32) * x1) + 810) + ((7 : Int32) * v1)) + 2) 25760) (grd (vp_in (((((3680 : Int32) * x1) + 810) + ((7 : Int32) * v1)) + 3) 25760) (bnd (f_R_sheetOf κ a0 x1 (5 : Int32) (ui (ui (ui (ui st (a0 + 14) ((((3680 : Int32) * x1) + 810) + ((7 : Int32) * v1) : Int32).toNatClampNeg x2) (a0 + 14) (((((3680 : Int32) * x1) + 810) + ((7 : Int32) * v1)) + 1 : Int32).toNatClampNeg x3) (a0 + 14) (((((3680 : Int32) * x1) + 810) + ((7 : Int32) * v1)) + 2 : Int32).toNatClampNeg x4) (a0 + 14) (((((3680 : Int32) * x1) + 810) + ((7 : Int32) * v1)) + 3 : Int32).toNatClampNeg x5)) (fun v6 => grd (vp_in (((((3680 : Int32) * x1) + 810) + ((7 : Int32) * v1)) + 4) 25760) (grd (vp_in (((((3680 : Int32) * x1) + 810) + ((7 : Int32) * v1)) + 5) 25760) (grd (vp_in (((((3680 : Int32) * x1) + 810) + ((7 : Int32) * v1)) + 6) 25760) (grd (vp_in (((3680 : Int32) * x1) + 7) 25760) (grd (vp_in (((3680 : Int32) * x1) + 7) 25760) (some (ui (ui (ui (ui (ui (ui (ui (ui st (a0 + 14) ((((3680 : Int32) * x1) + 810) + ((7 : Int32) * v1) : Int32).toNatClampNeg x2) (a0 + 14) (((((3680 : Int32) * x1) + 810) + ((7 : Int32) * v1)) + 1 : Int32).toNatClampNeg x3) (a0 + 14) (((((3680 : Int32) * x1) + 810) + ((7 : Int32) * v1)) + 2 : Int32).toNatClampNeg x4) (a0 + 14) (((((3680 : Int32) * x1) + 810) + ((7 : Int32) * v1)) + 3 : Int32).toNatClampNeg x5) (a0 + 14) ((((((3680 : Int32) * x1) + 810) + ((7 : Int32) * v1)) + 4) : Int32).toNatClampNeg v6) (a0 + 14) (((((3680 : Int32) * x1) + 810) + ((7 : Int32) * v1)) + 5 : Int32).toNatClampNeg x6) (a0 + 14) (((((3680 : Int32) * x1) + 810) + ((7 : Int32) * v1)) + 6 : Int32).toNatClampNeg 1) (a0 + 14) (((3680 : Int32) * x1) + 7 : Int32).toNatClampNeg ((gi (ui (ui (ui (ui (ui (ui (ui st (a0 + 14) ((((3680 : Int32) * x1) + 810) + ((7 : Int32) * v1) : Int32).toNatClampNeg x2) (a0 + 14) (((((3680 : Int32) * x1) + 810) + ((7 : Int32) * v1)) + 1 : Int32).toNatClampNeg x3) (a0 + 14) (((((3680 : Int32) * x1) + 810) + ((7 : Int32) * v1)) + 2 : Int32).toNatClampNeg x4) (a0 + 14) (((((3680 : Int32) * x1) + 810) + ((7 : Int32) * v1)) + 3 : Int32).toNatClampNeg x5) (a0 + 14) ((((((3680 : Int32) * x1) + 810) + ((7 : Int32) * v1)) + 4) : Int32).toNatClampNeg v6) (a0 + 14) (((((3680 : Int32) * x1) + 810) + ((7 : Int32) * v1)) + 5 : Int32).toNatClampNeg x6) (a0 + 14) (((((3680 : Int32) * x1) + 810) + ((7 : Int32) * v1)) + 6 : Int32).toNatClampNeg 1) (a0 + 14) (((3680 : Int32) * x1) + 7 : Int32).toNatClampNeg) + 1)))))))))))))
theorem t_R_ridgeComes {κ : Ko} {F : AS → Prop} {a0 : Nat} {x1 : Int32} {x2 : Int32} {x3 : Int32} {x4 : Int32} {x5 : Int32} {x6 : Int32} {st : AS} {s' : AS} (l_a0 : ly κ a0 = (12, 36)) (h : f_R_ridgeComes κ a0 x1 x2 x3 x4 x5 x6 st = some s') (k : F s') : C κ M_R_ridgeComes [.ref a0, .int x1, .int x2, .int x3, .int x4, .int x5, .int x6] st (RV F) := by
  unfold f_R_ridgeComes at h
  refine e_R_ridgeComes ?_
  obtain ⟨v1, h12, h⟩ := bnd_some h
  refine b_R_ridgeComes_0 (l_a0 := l_a0) (k1 := t_R_sheetOf l_a0 h12 ?_)
  obtain ⟨h2, h⟩ := grd_some h
  obtain ⟨h3, h⟩ := grd_some h
  obtain ⟨h4, h⟩ := grd_some h
  obtain ⟨h5, h⟩ := grd_some h
  obtain ⟨v6, h13, h⟩ := bnd_some h
  refine b_R_ridgeComes_18 (l_a0 := l_a0) (b1 := h2) (b2 := h3) (b3 := h4) (b4 := h5) (k5 := t_R_sheetOf l_a0 h13 ?_)
  obtain ⟨h7, h⟩ := grd_some h
  obtain ⟨h8, h⟩ := grd_some h
  obtain ⟨h9, h⟩ := grd_some h
  obtain ⟨h10, h⟩ := grd_some h
  obtain ⟨h11, h⟩ := grd_some h
  exact b_R_ridgeComes_76 (l_c0 := (co12 14 50 25760 rfl l_a0)) (b1 := h7) (l_a0 := l_a0) (b2 := h8) (b3 := h9) (b4 := h10) (b5 := h11) (k6 := lfV h k)
noncomputable def f_R_cuts (κ : Ko) (a0 : Nat) (x1 : Int32) (x2 : Int32) (x3 : Int32) (x4 : Int32) (st : AS) : Option AS := grd (vp_in ((((((3680 : Int32) * x1) + 10) + ((4 : Int32) * x2)) + 2) + x3) 25760) (grd (vp_in ((((((3680 : Int32) * x1) + 10) + ((4 : Int32) * x2)) + 2) + x3) 25760) (if x3 = 0 then grd (vp_in ((((3680 : Int32) * x1) + 10) + ((4 : Int32) * x2)) 25760) (grd (vp_in (((((3680 : Int32) * x1) + 10) + ((4 : Int32) * x2)) + 1) 25760) (grd (vp_in (((((3680 : Int32) * x1) + 10) + ((4 : Int32) * x2)) + 3) 25760) (bnd (f_R_facetComes κ a0 x1 ((gi (ui st (a0 + 14) ((((((3680 : Int32) * x1) + 10) + ((4 : Int32) * x2)) + 2) + x3 : Int32).toNatClampNeg x4) (a0 + 14) (((((3680 : Int32) * x1) + 10) + ((4 : Int32) * x2)) : Int32).toNatClampNeg) + x4) (gi (ui st (a0 + 14) ((((((3680 : Int32) * x1) + 10) + ((4 : Int32) * x2)) + 2) + x3 : Int32).toNatClampNeg x4) (a0 + 14) (((((3680 : Int32) * x1) + 10) + ((4 : Int32) * x2)) + 1 : Int32).toNatClampNeg) ((gi st (a0 + 14) ((((((3680 : Int32) * x1) + 10) + ((4 : Int32) * x2)) + 2) + x3 : Int32).toNatClampNeg) - x4) (gi (ui st (a0 + 14) ((((((3680 : Int32) * x1) + 10) + ((4 : Int32) * x2)) + 2) + x3 : Int32).toNatClampNeg x4) (a0 + 14) (((((3680 : Int32) * x1) + 10) + ((4 : Int32) * x2)) + 3 : Int32).toNatClampNeg) (ui st (a0 + 14) ((((((3680 : Int32) * x1) + 10) + ((4 : Int32) * x2)) + 2) + x3 : Int32).toNatClampNeg x4)) (fun s10 => some s10)))) else grd (vp_in ((((3680 : Int32) * x1) + 10) + ((4 : Int32) * x2)) 25760) (grd (vp_in (((((3680 : Int32) * x1) + 10) + ((4 : Int32) * x2)) + 1) 25760) (grd (vp_in (((((3680 : Int32) * x1) + 10) + ((4 : Int32) * x2)) + 2) 25760) (bnd (f_R_facetComes κ a0 x1 (gi (ui st (a0 + 14) ((((((3680 : Int32) * x1) + 10) + ((4 : Int32) * x2)) + 2) + x3 : Int32).toNatClampNeg x4) (a0 + 14) (((((3680 : Int32) * x1) + 10) + ((4 : Int32) * x2)) : Int32).toNatClampNeg) ((gi (ui st (a0 + 14) ((((((3680 : Int32) * x1) + 10) + ((4 : Int32) * x2)) + 2) + x3 : Int32).toNatClampNeg x4) (a0 + 14) (((((3680 : Int32) * x1) + 10) + ((4 : Int32) * x2)) + 1 : Int32).toNatClampNeg) + x4) (gi (ui st (a0 + 14) ((((((3680 : Int32) * x1) + 10) + ((4 : Int32) * x2)) + 2) + x3 : Int32).toNatClampNeg x4) (a0 + 14) (((((3680 : Int32) * x1) + 10) + ((4 : Int32) * x2)) + 2 : Int32).toNatClampNeg) ((gi st (a0 + 14) ((((((3680 : Int32) * x1) + 10) + ((4 : Int32) * x2)) + 2) + x3 : Int32).toNatClampNeg) - x4) (ui st (a0 + 14) ((((((3680 : Int32) * x1) + 10) + ((4 : Int32) * x2)) + 2) + x3 : Int32).toNatClampNeg x4)) (fun s6 => some s6))))))
theorem t_R_cuts {κ : Ko} {F : AS → Prop} {a0 : Nat} {x1 : Int32} {x2 : Int32} {x3 : Int32} {x4 : Int32} {st : AS} {s' : AS} (l_a0 : ly κ a0 = (12, 36)) (h : f_R_cuts κ a0 x1 x2 x3 x4 st = some s') (k : F s') : C κ M_R_cuts [.ref a0, .int x1, .int x2, .int x3, .int x4] st (RV F) := by
  unfold f_R_cuts at h
  refine e_R_cuts ?_
  obtain ⟨h1, h⟩ := grd_some h
  obtain ⟨h2, h⟩ := grd_some h
  refine b_R_cuts_0 (l_a0 := l_a0) (b1 := h1) (b2 := h2) (k3 := fun e11 => ?_) (k4 := fun e11 => ?_)
  · replace h := if_f e11 h
    obtain ⟨h3, h⟩ := grd_some h
    obtain ⟨h4, h⟩ := grd_some h
    obtain ⟨h5, h⟩ := grd_some h
    obtain ⟨s6, h12, h⟩ := bnd_some h
    refine b_R_cuts_85 (l_a0 := l_a0) (b1 := h3) (b2 := h4) (b3 := h5) (k4 := t_R_facetComes l_a0 h12 ?_)
    exact b_R_cuts_120  (k1 := lfV h k)
  · replace h := if_t e11 h
    obtain ⟨h7, h⟩ := grd_some h
    obtain ⟨h8, h⟩ := grd_some h
    obtain ⟨h9, h⟩ := grd_some h
    obtain ⟨s10, h13, h⟩ := bnd_some h
    refine b_R_cuts_47 (l_a0 := l_a0) (b1 := h7) (b2 := h8) (b3 := h9) (k4 := t_R_facetComes l_a0 h13 ?_)
    exact b_R_cuts_82  (k1 := lfV h k)
noncomputable def f_R_breaksAt (κ : Ko) (a0 : Nat) (x1 : Int32) (x2 : Int32) (st : AS) : Option AS := bnd (f_R_sheetOf κ a0 x1 (2 : Int32) st) (fun v1 => bnd (f_R_longSide κ a0 x1 x2 st) (fun v2 => bnd2 (f_R_clauseThat κ a0 v1 (1 : Int32) st) (fun v3 s4 => jn (fun (v12 : Int64) (s13 : AS) => bnd (f_R_wayOf κ a0 x1 x2 s13) (fun v14 => bnd (f_R_facetOf κ a0 x1 x2 ((1 : Int32) - v14) s13) (fun v15 => bnd (f_R_facetOf κ a0 x1 x2 v14 s13) (fun v16 => bnd (f_R_shortSide κ a0 x1 x2 s13) (fun v17 => bnd (f_R_ridgeComes κ a0 x1 v14 (v16 + (((lbnd v12 (1 : Int64) (((v2 : Int32).toInt64) - 1)) : Int64).toInt32)) v15 (v15 + v17) (0 : Int32) s13) (fun s18 => bnd (f_R_cuts κ a0 x1 x2 v14 (((lbnd v12 (1 : Int64) (((v2 : Int32).toInt64) - 1)) : Int64).toInt32) s18) (fun s19 => some s19))))))) fun j11 => if 0 ≤ v3 then bnd2 (f_R_summed κ a0 v1 v3 s4) (fun v5 s6 => bnd (f_R_down κ ((lbnd v5 ((-1000000) : Int64) (1000000 : Int64)) * ((v2 : Int32).toInt64)) (1000 : Int64) s6) (fun v7 => j11 v7 s6)) else bnd2 (f_R_draw κ a0 x1 s4) (fun v8 s9 => grd (¬ (v2 - 1) = 0) (j11 (((v8 - v8 / (v2 - 1) * (v2 - 1)) + 1 : Int32).toInt64) s9)))))
theorem t_R_breaksAt {κ : Ko} {F : AS → Prop} {a0 : Nat} {x1 : Int32} {x2 : Int32} {st : AS} {s' : AS} (l_a0 : ly κ a0 = (12, 36)) (h : f_R_breaksAt κ a0 x1 x2 st = some s') (k : F s') : C κ M_R_breaksAt [.ref a0, .int x1, .int x2] st (RV F) := by
  unfold f_R_breaksAt at h
  refine e_R_breaksAt ?_
  obtain ⟨v1, h20, h⟩ := bnd_some h
  refine b_R_breaksAt_0 (l_a0 := l_a0) (k1 := t_R_sheetOf l_a0 h20 ?_)
  obtain ⟨v2, h21, h⟩ := bnd_some h
  refine b_R_breaksAt_6 (l_a0 := l_a0) (k1 := t_R_longSide l_a0 h21 ?_)
  obtain ⟨v3, s4, h22, h⟩ := bnd2_some h
  refine b_R_breaksAt_13 (l_a0 := l_a0) (k1 := t_R_clauseThat l_a0 h22 ?_)
  obtain ⟨j11, hdj11, h⟩ := jn_some h
  have hj11 : ∀ (v12 : Int64) (s13 : AS), j11 v12 s13 = some s' → V κ M_R_breaksAt (RV F) 70 [some (.ref a0), some (.int x1), some (.int x2), none, some (.int v2), none, none, none, none, none, none] [.long v12] s13 := by
    intro v12 s13 h
    rw [hdj11] at h
    refine b_R_breaksAt_70  (k1 := t_R_bounded  rfl ?_)
    obtain ⟨v14, h23, h⟩ := bnd_some h
    refine b_R_breaksAt_83 (l_a0 := l_a0) (k1 := t_R_wayOf l_a0 h23 ?_)
    obtain ⟨v15, h24, h⟩ := bnd_some h
    refine b_R_breaksAt_92 (l_a0 := l_a0) (k1 := t_R_facetOf l_a0 h24 ?_)
    obtain ⟨v16, h25, h⟩ := bnd_some h
    refine b_R_breaksAt_104 (l_a0 := l_a0) (k1 := t_R_facetOf l_a0 h25 ?_)
    obtain ⟨v17, h26, h⟩ := bnd_some h
    refine b_R_breaksAt_118 (l_a0 := l_a0) (k1 := t_R_shortSide l_a0 h26 ?_)
    obtain ⟨s18, h27, h⟩ := bnd_some h
    refine b_R_breaksAt_131 (l_c0 := l_a0) (k1 := t_R_ridgeComes l_a0 h27 ?_)
    obtain ⟨s19, h28, h⟩ := bnd_some h
    refine b_R_breaksAt_136 (l_a0 := l_a0) (k1 := t_R_cuts l_a0 h28 ?_)
    exact b_R_breaksAt_146  (k1 := lfV h k)
  clear hdj11
  refine b_R_breaksAt_21  (k1 := fun e29 => ?_) (k2 := fun e29 => ?_)
  · replace h := if_t e29 h
    obtain ⟨v5, s6, h30, h⟩ := bnd2_some h
    refine b_R_breaksAt_44 (l_a0 := l_a0) (k1 := t_R_summed l_a0 h30 ?_)
    refine b_R_breaksAt_51  (k1 := t_R_bounded  rfl ?_)
    obtain ⟨v7, h31, h⟩ := bnd_some h
    refine b_R_breaksAt_60  (k1 := t_R_down  h31 ?_)
    exact hj11 _ _  h
  · replace h := if_f e29 h
    obtain ⟨v8, s9, h32, h⟩ := bnd2_some h
    refine b_R_breaksAt_28 (l_a0 := l_a0) (k1 := t_R_draw l_a0 h32 ?_)
    obtain ⟨h10, h⟩ := grd_some h
    refine b_R_breaksAt_33 (z1 := h10) (k2 := ?_)
    exact hj11 _ _  h
noncomputable def L_R_presses_56 (κ : Ko) (k_101 : Nat → Int32 → Int32 → Int32 → AS → Option (Int32 × AS)) : Nat → Nat → Int32 → Int32 → Int32 → Int32 → AS → Option (Int32 × AS)
  | 0, _, _, _, _, _, _ => none
  | d + 1, a0, x1, x2, x4, x5, st => bnd (f_R_sheetOf κ a0 x1 (7 : Int32) st) (fun v8 => if v8 ≤ x5 then k_101 a0 x1 x2 x4 st else grd (vp_in (((((3680 : Int32) * x1) + 810) + ((7 : Int32) * x5)) + 6) 25760) (grd (vp_in (((((3680 : Int32) * x1) + 810) + ((7 : Int32) * x5)) + 6) 25760) (L_R_presses_56 κ k_101 d a0 x1 x2 x4 (x5 + 1) (ui st (a0 + 14) (((((3680 : Int32) * x1) + 810) + ((7 : Int32) * x5)) + 6 : Int32).toNatClampNeg ((gi st (a0 + 14) (((((3680 : Int32) * x1) + 810) + ((7 : Int32) * x5)) + 6 : Int32).toNatClampNeg) + 1)))))
noncomputable def L_R_presses_116 (κ : Ko) : Nat → Nat → Int32 → Int32 → Int32 → Int32 → Int32 → Int32 → AS → Option (Int32 × AS)
  | 0, _, _, _, _, _, _, _, _ => none
  | d + 1, a0, x1, x2, x4, x5, x6, x7, st => if x5 ≤ x7 then some (x6, st) else bnd2 (f_R_draw κ a0 x1 st) (fun v20 s21 => bnd (f_R_sheetOf κ a0 x1 (5 : Int32) s21) (fun v22 => bnd (f_R_facetWords κ a0 x1 x7 v22 x2 x4 s21) (fun s23 => bnd (f_R_sheetOf κ a0 x1 (2 : Int32) s23) (fun v24 => bnd2 (f_R_breaks κ a0 v24 s23) (fun v25 s26 => jn (L_R_presses_116 κ  d a0 x1 x2 x4 x5 x6 (x7 + 1) s26) fun j31 => if v25 ≤ (v20 - v20 / 1000 * 1000) then j31 else bnd (f_R_longSide κ a0 x1 x7 s26) (fun v27 => if v27 < 2 then j31 else bnd (f_R_sheetOf κ a0 x1 (6 : Int32) s26) (fun v28 => if v28 = 200 then j31 else bnd (f_R_sheetOf κ a0 x1 (7 : Int32) s26) (fun v29 => if v29 = 400 then L_R_presses_116 κ  d a0 x1 x2 x4 x5 x6 (x7 + 1) s26 else bnd (f_R_breaksAt κ a0 x1 x7 s26) (fun s30 => L_R_presses_116 κ  d a0 x1 x2 x4 x5 (x6 + 1) (x7 + 1) s30)))))))))
noncomputable def f_R_presses (κ : Ko) (a0 : Nat) (x1 : Int32) (x2 : Int32) (st : AS) : Option (Int32 × AS) := bnd2 (f_R_expects κ a0 x1 x2 (0 : Int32) st) (fun v1 s2 => bnd (f_R_together κ a0 x1 s2) (fun v3 => grd (vp_in (((3680 : Int32) * x1) + 5) 25760) (grd (vp_in (((3680 : Int32) * x1) + 5) 25760) (bnd (f_R_sheetOf κ a0 x1 (5 : Int32) (ui s2 (a0 + 14) (((3680 : Int32) * x1) + 5 : Int32).toNatClampNeg ((gi s2 (a0 + 14) (((3680 : Int32) * x1) + 5 : Int32).toNatClampNeg) + 1))) (fun v6 => grd (vp_in ((((3680 : Int32) * x1) + 3610) + v6) 25760) (L_R_presses_56 κ (fun (v13 : Nat) (v15 : Int32) (v16 : Int32) (v17 : Int32) (s18 : AS) => bnd (f_R_sheetOf κ v13 v15 (6 : Int32) s18) (fun v19 => L_R_presses_116 κ  FU v13 v15 v16 v17 v19 (0 : Int32) (0 : Int32) s18)) FU a0 x1 x2 v3 (0 : Int32) (ui (ui s2 (a0 + 14) (((3680 : Int32) * x1) + 5 : Int32).toNatClampNeg ((gi s2 (a0 + 14) (((3680 : Int32) * x1) + 5 : Int32).toNatClampNeg) + 1)) (a0 + 14) ((((3680 : Int32) * x1) + 3610) + v6 : Int32).toNatClampNeg v1)))))))
theorem l_R_presses_56 {κ : Ko} {F : Int32 → AS → Prop} {v : Int32} {s' : AS} (k : F v s') {k_101 : Nat → Int32 → Int32 → Int32 → AS → Option (Int32 × AS)} (hk_101 : ∀ (a0 : Nat) (x1 : Int32) (x2 : Int32) (x4 : Int32) (st : AS), ly κ a0 = (12, 36) → k_101 a0 x1 x2 x4 st = some (v, s') → V κ M_R_presses (RI F) 101 [some (.ref a0), some (.int x1), some (.int x2), none, some (.int x4), none, none, none, none] [] st) : ∀ (d : Nat) (a0 : Nat) (x1 : Int32) (x2 : Int32) (x4 : Int32) (x5 : Int32) (st : AS), ly κ a0 = (12, 36) → L_R_presses_56 κ k_101 d a0 x1 x2 x4 x5 st = some (v, s') → V κ M_R_presses (RI F) 56 [some (.ref a0), some (.int x1), some (.int x2), none, some (.int x4), some (.int x5), none, none, none] [] st := by
  intro d
  induction d with
  | zero =>
    intro a0 x1 x2 x4 x5 st l_a0 h
    exact nn_some h
  | succ d ih =>
    intro a0 x1 x2 x4 x5 st l_a0 h
    rw [L_R_presses_56] at h
    obtain ⟨v8, h11, h⟩ := bnd_some h
    refine b_R_presses_56 (l_a0 := l_a0) (k1 := t_R_sheetOf l_a0 h11 ?_)
    refine b_R_presses_65  (k1 := fun e12 => ?_) (k2 := fun e12 => ?_)
    · replace h := if_t e12 h
      exact hk_101 _ _ _ _ _ l_a0 h
    · replace h := if_f e12 h
      obtain ⟨h9, h⟩ := grd_some h
      obtain ⟨h10, h⟩ := grd_some h
      refine b_R_presses_68 (l_a0 := l_a0) (b1 := h9) (b2 := h10) (k3 := ?_)
      exact ih _ _ _ _ _ _ l_a0 h
theorem l_R_presses_116 {κ : Ko} {F : Int32 → AS → Prop} {v : Int32} {s' : AS} (k : F v s') : ∀ (d : Nat) (a0 : Nat) (x1 : Int32) (x2 : Int32) (x4 : Int32) (x5 : Int32) (x6 : Int32) (x7 : Int32) (st : AS), ly κ a0 = (12, 36) → L_R_presses_116 κ  d a0 x1 x2 x4 x5 x6 x7 st = some (v, s') → V κ M_R_presses (RI F) 116 [some (.ref a0), some (.int x1), some (.int x2), none, some (.int x4), some (.int x5), some (.int x6), some (.int x7), none] [] st := by
  intro d
  induction d with
  | zero =>
    intro a0 x1 x2 x4 x5 x6 x7 st l_a0 h
    exact nn_some h
  | succ d ih =>
    intro a0 x1 x2 x4 x5 x6 x7 st l_a0 h
    rw [L_R_presses_116] at h
    refine b_R_presses_116  (k1 := fun e32 => ?_) (k2 := fun e32 => ?_)
    · replace h := if_t e32 h
      exact b_R_presses_221  (k1 := lfI h k)
    · replace h := if_f e32 h
      obtain ⟨v20, s21, h33, h⟩ := bnd2_some h
      refine b_R_presses_123 (l_a0 := l_a0) (k1 := t_R_draw l_a0 h33 ?_)
      obtain ⟨v22, h34, h⟩ := bnd_some h
      refine b_R_presses_128 (l_a0 := l_a0) (k1 := t_R_sheetOf l_a0 h34 ?_)
      obtain ⟨s23, h35, h⟩ := bnd_some h
      refine b_R_presses_140 (l_c0 := l_a0) (k1 := t_R_facetWords l_a0 h35 ?_)
      obtain ⟨v24, h36, h⟩ := bnd_some h
      refine b_R_presses_146 (l_a0 := l_a0) (k1 := t_R_sheetOf l_a0 h36 ?_)
      obtain ⟨v25, s26, h37, h⟩ := bnd2_some h
      refine b_R_presses_159 (l_c1 := l_a0) (k1 := t_R_breaks l_a0 h37 ?_)
      obtain ⟨j31, hdj31, h⟩ := jn_some h
      have hj31 : j31 = some (v, s') → V κ M_R_presses (RI F) 215 [some (.ref a0), some (.int x1), some (.int x2), none, some (.int x4), some (.int x5), some (.int x6), some (.int x7), none] [] s26 := by
        intro h
        rw [hdj31] at h
        refine b_R_presses_215  (k1 := ?_)
        exact ih _ _ _ _ _ _ _ _ l_a0 h
      clear hdj31
      refine b_R_presses_162  (k1 := fun e38 => ?_) (k2 := fun e38 => ?_)
      · replace h := if_t e38 h
        exact hj31  h
      · replace h := if_f e38 h
        obtain ⟨v27, h39, h⟩ := bnd_some h
        refine b_R_presses_165 (l_a0 := l_a0) (k1 := t_R_longSide l_a0 h39 ?_)
        refine b_R_presses_172  (k1 := fun e40 => ?_) (k2 := fun e40 => ?_)
        · replace h := if_t e40 h
          exact hj31  h
        · replace h := if_f e40 h
          obtain ⟨v28, h41, h⟩ := bnd_some h
          refine b_R_presses_176 (l_a0 := l_a0) (k1 := t_R_sheetOf l_a0 h41 ?_)
          refine b_R_presses_183  (k1 := fun e42 => ?_) (k2 := fun e42 => ?_)
          · replace h := if_t e42 h
            exact hj31  h
          · replace h := if_f e42 h
            obtain ⟨v29, h43, h⟩ := bnd_some h
            refine b_R_presses_189 (l_a0 := l_a0) (k1 := t_R_sheetOf l_a0 h43 ?_)
            refine b_R_presses_196  (k1 := fun e44 => ?_) (k2 := fun e44 => ?_)
            · replace h := if_f e44 h
              obtain ⟨s30, h45, h⟩ := bnd_some h
              refine b_R_presses_205 (l_a0 := l_a0) (k1 := t_R_breaksAt l_a0 h45 ?_)
              refine b_R_presses_212  (k1 := ?_)
              exact ih _ _ _ _ _ _ _ _ l_a0 h
            · replace h := if_t e44 h
              refine b_R_presses_202  (k1 := ?_)
              exact ih _ _ _ _ _ _ _ _ l_a0 h
theorem t_R_presses {κ : Ko} {F : Int32 → AS → Prop} {a0 : Nat} {x1 : Int32} {x2 : Int32} {st : AS} {v : Int32} {s' : AS} (l_a0 : ly κ a0 = (12, 36)) (h : f_R_presses κ a0 x1 x2 st = some (v, s')) (k : F v s') : C κ M_R_presses [.ref a0, .int x1, .int x2] st (RI F) := by
  unfold f_R_presses at h
  refine e_R_presses ?_
  obtain ⟨v1, s2, h46, h⟩ := bnd2_some h
  refine b_R_presses_0 (l_a0 := l_a0) (k1 := t_R_expects l_a0 h46 ?_)
  obtain ⟨v3, h47, h⟩ := bnd_some h
  refine b_R_presses_7 (l_a0 := l_a0) (k1 := t_R_together l_a0 h47 ?_)
  obtain ⟨h4, h⟩ := grd_some h
  obtain ⟨h5, h⟩ := grd_some h
  obtain ⟨v6, h48, h⟩ := bnd_some h
  refine b_R_presses_13 (l_a0 := l_a0) (b1 := h4) (b2 := h5) (k3 := t_R_sheetOf l_a0 h48 ?_)
  obtain ⟨h7, h⟩ := grd_some h
  refine b_R_presses_50 (l_c0 := (co12 14 50 25760 rfl l_a0)) (b1 := h7) (k2 := ?_)
  refine l_R_presses_56 k ?_ FU _ _ _ _ _ _ l_a0 h
  · intro v13 v15 v16 v17 s18 l14 h
    obtain ⟨v19, h49, h⟩ := bnd_some h
    refine b_R_presses_101 (l_a0 := l14) (k1 := t_R_sheetOf l14 h49 ?_)
    refine b_R_presses_108  (k1 := ?_)
    refine l_R_presses_116 k FU _ _ _ _ _ _ _ _ l14 h
noncomputable def f_R_press (κ : Ko) (a0 : Nat) (x1 : Int32) (x2 : Int32) (st : AS) : Option (Int32 × AS) := jn (some (((-1) : Int32), st)) fun j4 => if (f_R_isSheet κ a0 x1 st) = 0 then j4 else if (wi ((x2 : Int32).toInt64) (1 : Int64) (99 : Int64)) = 0 then j4 else bnd (f_R_sheetOf κ a0 x1 (5 : Int32) st) (fun v1 => if 60 ≤ v1 then j4 else bnd2 (f_R_presses κ a0 x1 x2 st) (fun v2 s3 => some (v2, s3)))
theorem t_R_press {κ : Ko} {F : Int32 → AS → Prop} {a0 : Nat} {x1 : Int32} {x2 : Int32} {st : AS} {v : Int32} {s' : AS} (l_a0 : ly κ a0 = (12, 36)) (h : f_R_press κ a0 x1 x2 st = some (v, s')) (k : F v s') : C κ M_R_press [.ref a0, .int x1, .int x2] st (RI F) := by
  unfold f_R_press at h
  refine e_R_press ?_
  refine b_R_press_0 (l_a0 := l_a0) (k1 := t_R_isSheet l_a0 rfl ?_)
  obtain ⟨j4, hdj4, h⟩ := jn_some h
  have hj4 : j4 = some (v, s') → V κ M_R_press (RI F) 40 [none, none, none] [] st := by
    intro h
    rw [hdj4] at h
    exact b_R_press_40  (k1 := lfI h k)
  clear hdj4
  refine b_R_press_5  (k1 := fun e5 => ?_) (k2 := fun e5 => ?_)
  · replace h := if_t e5 h
    exact hj4  h
  · replace h := if_f e5 h
    refine b_R_press_8  (k1 := t_R_in  rfl ?_)
    refine b_R_press_17  (k1 := fun e6 => ?_) (k2 := fun e6 => ?_)
    · replace h := if_t e6 h
      exact hj4  h
    · replace h := if_f e6 h
      obtain ⟨v1, h7, h⟩ := bnd_some h
      refine b_R_press_20 (l_a0 := l_a0) (k1 := t_R_sheetOf l_a0 h7 ?_)
      refine b_R_press_26  (k1 := fun e8 => ?_) (k2 := fun e8 => ?_)
      · replace h := if_t e8 h
        exact hj4  h
      · replace h := if_f e8 h
        obtain ⟨v2, s3, h9, h⟩ := bnd2_some h
        refine b_R_press_31 (l_a0 := l_a0) (k1 := t_R_presses l_a0 h9 ?_)
        exact b_R_press_37  (k1 := lfI h k)
noncomputable def f_R_isThrough (κ : Ko) (a0 : Nat) (x1 : Int32) (x2 : Int32) (x3 : Int32) (x4 : Int32) (st : AS) : Option Int32 := bnd (f_R_facetOf κ a0 x1 x2 x3 st) (fun v1 => jn (some (0 : Int32)) fun j4 => if x4 ≤ v1 then j4 else bnd (f_R_facetOf κ a0 x1 x2 x3 st) (fun v2 => bnd (f_R_facetOf κ a0 x1 x2 ((2 : Int32) + x3) st) (fun v3 => if (v2 + v3) ≤ x4 then j4 else some (1 : Int32))))
theorem t_R_isThrough {κ : Ko} {F : Int32 → AS → Prop} {a0 : Nat} {x1 : Int32} {x2 : Int32} {x3 : Int32} {x4 : Int32} {st : AS} {v : Int32} (l_a0 : ly κ a0 = (12, 36)) (h : f_R_isThrough κ a0 x1 x2 x3 x4 st = some v) (k : F v st) : C κ M_R_isThrough [.ref a0, .int x1, .int x2, .int x3, .int x4] st (RI F) := by
  unfold f_R_isThrough at h
  refine e_R_isThrough ?_
  obtain ⟨v1, h5, h⟩ := bnd_some h
  refine b_R_isThrough_0 (l_a0 := l_a0) (k1 := t_R_facetOf l_a0 h5 ?_)
  obtain ⟨j4, hdj4, h⟩ := jn_some h
  have hj4 : j4 = some v → V κ M_R_isThrough (RI F) 38 [none, none, none, none, none] [] st := by
    intro h
    rw [hdj4] at h
    exact b_R_isThrough_38  (k1 := lfIP h k)
  clear hdj4
  refine b_R_isThrough_7  (k1 := fun e6 => ?_) (k2 := fun e6 => ?_)
  · replace h := if_t e6 h
    exact hj4  h
  · replace h := if_f e6 h
    obtain ⟨v2, h7, h⟩ := bnd_some h
    refine b_R_isThrough_12 (l_a0 := l_a0) (k1 := t_R_facetOf l_a0 h7 ?_)
    obtain ⟨v3, h8, h⟩ := bnd_some h
    refine b_R_isThrough_19 (l_a0 := l_a0) (k1 := t_R_facetOf l_a0 h8 ?_)
    refine b_R_isThrough_28  (k1 := fun e9 => ?_) (k2 := fun e9 => ?_)
    · replace h := if_t e9 h
      exact hj4  h
    · replace h := if_f e9 h
      exact b_R_isThrough_34  (k1 := lfIP h k)
noncomputable def L_R_foldsAt_48 (κ : Ko) (k_83 : Nat → Int32 → Int32 → Int32 → Int32 → Int32 → AS → Option (Int32 × AS)) : Nat → Nat → Int32 → Int32 → Int32 → Int32 → Int32 → Int32 → AS → Option (Int32 × AS)
  | 0, _, _, _, _, _, _, _, _ => none
  | d + 1, a0, x1, x2, x3, x4, x5, x6, st => if x4 ≤ x6 then k_83 a0 x1 x2 x3 x4 x5 st else bnd (f_R_isThrough κ a0 x1 x6 x2 x3 st) (fun v4 => L_R_foldsAt_48 κ k_83 d a0 x1 x2 x3 x4 (if v4 = 0 then x5 + 0 else x5 + 1 : Int32) (x6 + 1) st)
noncomputable def L_R_foldsAt_121 (κ : Ko) : Nat → Nat → Int32 → Int32 → Int32 → Int32 → Int32 → Int32 → AS → Option (Int32 × AS)
  | 0, _, _, _, _, _, _, _, _ => none
  | d + 1, a0, x1, x2, x3, x4, x5, x6, st => if x4 ≤ x6 then some (x5, st) else bnd (f_R_isThrough κ a0 x1 x6 x2 x3 st) (fun v20 => jn (fun (s24 : AS) => L_R_foldsAt_121 κ  d a0 x1 x2 x3 x4 x5 (x6 + 1) s24) fun j23 => if v20 = 0 then j23 st else bnd (f_R_facetOf κ a0 x1 x6 x2 st) (fun v21 => bnd (f_R_cuts κ a0 x1 x6 x2 (x3 - v21) st) (fun s22 => j23 s22)))
noncomputable def f_R_foldsAt (κ : Ko) (a0 : Nat) (x1 : Int32) (x2 : Int32) (x3 : Int32) (st : AS) : Option (Int32 × AS) := bnd (f_R_sheetOf κ a0 x1 x2 st) (fun v1 => jn (some (((-1) : Int32), st)) fun j31 => if (wi ((x3 : Int32).toInt64) (1 : Int64) ((v1 - 1 : Int32).toInt64)) = 0 then j31 else bnd (f_R_sheetOf κ a0 x1 (7 : Int32) st) (fun v2 => if v2 = 400 then j31 else bnd (f_R_sheetOf κ a0 x1 (6 : Int32) st) (fun v3 => L_R_foldsAt_48 κ (fun (v10 : Nat) (v12 : Int32) (v13 : Int32) (v14 : Int32) (v15 : Int32) (v16 : Int32) (s17 : AS) => jn (some (((-1) : Int32), s17)) fun j30 => if v16 = 0 then j30 else if (v15 + v16) ≤ 200 then bnd (f_R_sheetOf κ v10 v12 ((1 : Int32) - v13) s17) (fun v18 => bnd (f_R_ridgeComes κ v10 v12 v13 v14 (0 : Int32) v18 (1 : Int32) s17) (fun s19 => L_R_foldsAt_121 κ  FU v10 v12 v13 v14 v15 v16 (0 : Int32) s19)) else j30) FU a0 x1 x2 x3 v3 (0 : Int32) (0 : Int32) st)))
theorem l_R_foldsAt_48 {κ : Ko} {F : Int32 → AS → Prop} {v : Int32} {s' : AS} (k : F v s') {k_83 : Nat → Int32 → Int32 → Int32 → Int32 → Int32 → AS → Option (Int32 × AS)} (hk_83 : ∀ (a0 : Nat) (x1 : Int32) (x2 : Int32) (x3 : Int32) (x4 : Int32) (x5 : Int32) (st : AS), ly κ a0 = (12, 36) → k_83 a0 x1 x2 x3 x4 x5 st = some (v, s') → V κ M_R_foldsAt (RI F) 83 [some (.ref a0), some (.int x1), some (.int x2), some (.int x3), some (.int x4), some (.int x5), none] [] st) : ∀ (d : Nat) (a0 : Nat) (x1 : Int32) (x2 : Int32) (x3 : Int32) (x4 : Int32) (x5 : Int32) (x6 : Int32) (st : AS), ly κ a0 = (12, 36) → L_R_foldsAt_48 κ k_83 d a0 x1 x2 x3 x4 x5 x6 st = some (v, s') → V κ M_R_foldsAt (RI F) 48 [some (.ref a0), some (.int x1), some (.int x2), some (.int x3), some (.int x4), some (.int x5), some (.int x6)] [] st := by
  intro d
  induction d with
  | zero =>
    intro a0 x1 x2 x3 x4 x5 x6 st l_a0 h
    exact nn_some h
  | succ d ih =>
    intro a0 x1 x2 x3 x4 x5 x6 st l_a0 h
    rw [L_R_foldsAt_48] at h
    refine b_R_foldsAt_48  (k1 := fun e5 => ?_) (k2 := fun e5 => ?_)
    · replace h := if_t e5 h
      exact hk_83 _ _ _ _ _ _ _ l_a0 h
    · replace h := if_f e5 h
      obtain ⟨v4, h6, h⟩ := bnd_some h
      refine b_R_foldsAt_55 (l_a0 := l_a0) (k1 := t_R_isThrough l_a0 h6 ?_)
      have K8 : V κ M_R_foldsAt (RI F) 48 [some (.ref a0), some (.int x1), some (.int x2), some (.int x3), some (.int x4), some (.int (if v4 = 0 then x5 + 0 else x5 + 1 : Int32)), some (.int (x6 + 1))] [] st := by
        exact ih _ _ _ _ _ _ _ _ l_a0 h
      refine b_R_foldsAt_66  (k1 := fun e9 => ?_) (k2 := fun e9 => ?_)
      · refine b_R_foldsAt_73  (k1 := ?_)
        exact (ite_t (P := fun z => V κ M_R_foldsAt (RI F) 48 [some (.ref a0), some (.int x1), some (.int x2), some (.int x3), some (.int x4), some (.int z), some (.int (x6 + 1))] [] st) e9 K8)
      · refine b_R_foldsAt_69  (k1 := ?_)
        exact (ite_f (P := fun z => V κ M_R_foldsAt (RI F) 48 [some (.ref a0), some (.int x1), some (.int x2), some (.int x3), some (.int x4), some (.int z), some (.int (x6 + 1))] [] st) e9 K8)
theorem l_R_foldsAt_121 {κ : Ko} {F : Int32 → AS → Prop} {v : Int32} {s' : AS} (k : F v s') : ∀ (d : Nat) (a0 : Nat) (x1 : Int32) (x2 : Int32) (x3 : Int32) (x4 : Int32) (x5 : Int32) (x6 : Int32) (st : AS), ly κ a0 = (12, 36) → L_R_foldsAt_121 κ  d a0 x1 x2 x3 x4 x5 x6 st = some (v, s') → V κ M_R_foldsAt (RI F) 121 [some (.ref a0), some (.int x1), some (.int x2), some (.int x3), some (.int x4), some (.int x5), some (.int x6)] [] st := by
  intro d
  induction d with
  | zero =>
    intro a0 x1 x2 x3 x4 x5 x6 st l_a0 h
    exact nn_some h
  | succ d ih =>
    intro a0 x1 x2 x3 x4 x5 x6 st l_a0 h
    rw [L_R_foldsAt_121] at h
    refine b_R_foldsAt_121  (k1 := fun e25 => ?_) (k2 := fun e25 => ?_)
    · replace h := if_t e25 h
      exact b_R_foldsAt_164  (k1 := lfI h k)
    · replace h := if_f e25 h
      obtain ⟨v20, h26, h⟩ := bnd_some h
      refine b_R_foldsAt_128 (l_a0 := l_a0) (k1 := t_R_isThrough l_a0 h26 ?_)
      obtain ⟨j23, hdj23, h⟩ := jn_some h
      have hj23 : ∀ (s24 : AS), j23 s24 = some (v, s') → V κ M_R_foldsAt (RI F) 158 [some (.ref a0), some (.int x1), some (.int x2), some (.int x3), some (.int x4), some (.int x5), some (.int x6)] [] s24 := by
        intro s24 h
        rw [hdj23] at h
        refine b_R_foldsAt_158  (k1 := ?_)
        exact ih _ _ _ _ _ _ _ _ l_a0 h
      clear hdj23
      refine b_R_foldsAt_137  (k1 := fun e27 => ?_) (k2 := fun e27 => ?_)
      · replace h := if_t e27 h
        exact hj23 _  h
      · replace h := if_f e27 h
        obtain ⟨v21, h28, h⟩ := bnd_some h
        refine b_R_foldsAt_140 (l_a0 := l_a0) (k1 := t_R_facetOf l_a0 h28 ?_)
        obtain ⟨s22, h29, h⟩ := bnd_some h
        refine b_R_foldsAt_154 (l_c0 := l_a0) (k1 := t_R_cuts l_a0 h29 ?_)
        exact hj23 _  h
theorem t_R_foldsAt {κ : Ko} {F : Int32 → AS → Prop} {a0 : Nat} {x1 : Int32} {x2 : Int32} {x3 : Int32} {st : AS} {v : Int32} {s' : AS} (l_a0 : ly κ a0 = (12, 36)) (h : f_R_foldsAt κ a0 x1 x2 x3 st = some (v, s')) (k : F v s') : C κ M_R_foldsAt [.ref a0, .int x1, .int x2, .int x3] st (RI F) := by
  unfold f_R_foldsAt at h
  refine e_R_foldsAt ?_
  obtain ⟨v1, h32, h⟩ := bnd_some h
  refine b_R_foldsAt_0 (l_a0 := l_a0) (k1 := t_R_sheetOf l_a0 h32 ?_)
  refine b_R_foldsAt_9  (k1 := t_R_in  rfl ?_)
  obtain ⟨j31, hdj31, h⟩ := jn_some h
  have hj31 : j31 = some (v, s') → V κ M_R_foldsAt (RI F) 31 [none, none, none, none, none, none, none] [] st := by
    intro h
    rw [hdj31] at h
    exact b_R_foldsAt_31  (k1 := lfI h k)
  clear hdj31
  refine b_R_foldsAt_15  (k1 := fun e33 => ?_) (k2 := fun e33 => ?_)
  · replace h := if_t e33 h
    exact hj31  h
  · replace h := if_f e33 h
    obtain ⟨v2, h34, h⟩ := bnd_some h
    refine b_R_foldsAt_18 (l_a0 := l_a0) (k1 := t_R_sheetOf l_a0 h34 ?_)
    refine b_R_foldsAt_25  (k1 := fun e35 => ?_) (k2 := fun e35 => ?_)
    · replace h := if_f e35 h
      obtain ⟨v3, h36, h⟩ := bnd_some h
      refine b_R_foldsAt_33 (l_a0 := l_a0) (k1 := t_R_sheetOf l_a0 h36 ?_)
      refine b_R_foldsAt_40  (k1 := ?_)
      refine l_R_foldsAt_48 k ?_ FU _ _ _ _ _ _ _ _ l_a0 h
      · intro v10 v12 v13 v14 v15 v16 s17 l11 h
        obtain ⟨j30, hdj30, h⟩ := jn_some h
        have hj30 : j30 = some (v, s') → V κ M_R_foldsAt (RI F) 99 [none, none, none, none, none, none, none] [] s17 := by
          intro h
          rw [hdj30] at h
          exact b_R_foldsAt_99  (k1 := lfI h k)
        clear hdj30
        refine b_R_foldsAt_83  (k1 := fun e37 => ?_) (k2 := fun e37 => ?_)
        · replace h := if_t e37 h
          exact hj30  h
        · replace h := if_f e37 h
          refine b_R_foldsAt_88  (k1 := fun e38 => ?_) (k2 := fun e38 => ?_)
          · replace h := if_t e38 h
            obtain ⟨v18, h39, h⟩ := bnd_some h
            refine b_R_foldsAt_101 (l_a0 := l11) (k1 := t_R_sheetOf l11 h39 ?_)
            obtain ⟨s19, h40, h⟩ := bnd_some h
            refine b_R_foldsAt_114 (l_c0 := l11) (k1 := t_R_ridgeComes l11 h40 ?_)
            refine b_R_foldsAt_118  (k1 := ?_)
            refine l_R_foldsAt_121 k FU _ _ _ _ _ _ _ _ l11 h
          · replace h := if_f e38 h
            exact hj30  h
    · replace h := if_t e35 h
      exact hj31  h
noncomputable def f_R_fold (κ : Ko) (a0 : Nat) (x1 : Int32) (x2 : Int32) (x3 : Int32) (st : AS) : Option (Int32 × AS) := jn (some (((-1) : Int32), st)) fun j3 => if (f_R_isSheet κ a0 x1 st) = 0 then j3 else if (wi ((x2 : Int32).toInt64) (0 : Int64) (1 : Int64)) = 0 then j3 else bnd2 (f_R_foldsAt κ a0 x1 x2 x3 st) (fun v1 s2 => some (v1, s2))
theorem t_R_fold {κ : Ko} {F : Int32 → AS → Prop} {a0 : Nat} {x1 : Int32} {x2 : Int32} {x3 : Int32} {st : AS} {v : Int32} {s' : AS} (l_a0 : ly κ a0 = (12, 36)) (h : f_R_fold κ a0 x1 x2 x3 st = some (v, s')) (k : F v s') : C κ M_R_fold [.ref a0, .int x1, .int x2, .int x3] st (RI F) := by
  unfold f_R_fold at h
  refine e_R_fold ?_
  refine b_R_fold_0 (l_a0 := l_a0) (k1 := t_R_isSheet l_a0 rfl ?_)
  obtain ⟨j3, hdj3, h⟩ := jn_some h
  have hj3 : j3 = some (v, s') → V κ M_R_fold (RI F) 28 [none, none, none, none] [] st := by
    intro h
    rw [hdj3] at h
    exact b_R_fold_28  (k1 := lfI h k)
  clear hdj3
  refine b_R_fold_5  (k1 := fun e4 => ?_) (k2 := fun e4 => ?_)
  · replace h := if_t e4 h
    exact hj3  h
  · replace h := if_f e4 h
    refine b_R_fold_8  (k1 := t_R_in  rfl ?_)
    refine b_R_fold_15  (k1 := fun e5 => ?_) (k2 := fun e5 => ?_)
    · replace h := if_t e5 h
      exact hj3  h
    · replace h := if_f e5 h
      obtain ⟨v1, s2, h6, h⟩ := bnd2_some h
      refine b_R_fold_18 (l_a0 := l_a0) (k1 := t_R_foldsAt l_a0 h6 ?_)
      exact b_R_fold_25  (k1 := lfI h k)
noncomputable def f_R_exchange (κ : Ko) (a0 : Nat) (x1 : Int32) (x2 : Int32) (st : AS) : Option AS := grd (vp_in x1 25760) (grd (vp_in x2 25760) (grd (vp_in x1 25760) (grd (vp_in x2 25760) (some (ui (ui st (a0 + 14) (x1 : Int32).toNatClampNeg (gi st (a0 + 14) (x2 : Int32).toNatClampNeg)) (a0 + 14) (x2 : Int32).toNatClampNeg (gi st (a0 + 14) (x1 : Int32).toNatClampNeg))))))
theorem t_R_exchange {κ : Ko} {F : AS → Prop} {a0 : Nat} {x1 : Int32} {x2 : Int32} {st : AS} {s' : AS} (l_a0 : ly κ a0 = (12, 36)) (h : f_R_exchange κ a0 x1 x2 st = some s') (k : F s') : C κ M_R_exchange [.ref a0, .int x1, .int x2] st (RV F) := by
  unfold f_R_exchange at h
  refine e_R_exchange ?_
  obtain ⟨h1, h⟩ := grd_some h
  obtain ⟨h2, h⟩ := grd_some h
  obtain ⟨h3, h⟩ := grd_some h
  obtain ⟨h4, h⟩ := grd_some h
  exact b_R_exchange_0 (l_a0 := l_a0) (b1 := h1) (b2 := h2) (b3 := h3) (b4 := h4) (k5 := lfV h k)
noncomputable def L_R_turns_18 (κ : Ko) (k_66 : Nat → Int32 → AS → Option AS) : Nat → Nat → Int32 → Int32 → AS → Option AS
  | 0, _, _, _, _ => none
  | d + 1, a0, x1, x2, st => bnd (f_R_sheetOf κ a0 x1 (6 : Int32) st) (fun v2 => if v2 ≤ x2 then k_66 a0 x1 st else bnd (f_R_exchange κ a0 ((((3680 : Int32) * x1) + 10) + ((4 : Int32) * x2)) (((((3680 : Int32) * x1) + 10) + ((4 : Int32) * x2)) + 1) st) (fun s3 => bnd (f_R_exchange κ a0 (((((3680 : Int32) * x1) + 10) + ((4 : Int32) * x2)) + 2) (((((3680 : Int32) * x1) + 10) + ((4 : Int32) * x2)) + 3) s3) (fun s4 => L_R_turns_18 κ k_66 d a0 x1 (x2 + 1) s4)))
noncomputable def L_R_turns_68 (κ : Ko) : Nat → Nat → Int32 → Int32 → AS → Option AS
  | 0, _, _, _, _ => none
  | d + 1, a0, x1, x2, st => bnd (f_R_sheetOf κ a0 x1 (7 : Int32) st) (fun v13 => if v13 ≤ x2 then some st else bnd (f_R_ridgeOf κ a0 x1 x2 (0 : Int32) st) (fun v14 => grd (vp_in ((((3680 : Int32) * x1) + 810) + ((7 : Int32) * x2)) 25760) (L_R_turns_68 κ  d a0 x1 (x2 + 1) (ui st (a0 + 14) (((((3680 : Int32) * x1) + 810) + ((7 : Int32) * x2)) : Int32).toNatClampNeg ((1 : Int32) - v14)))))
noncomputable def f_R_turns (κ : Ko) (a0 : Nat) (x1 : Int32) (st : AS) : Option AS := bnd (f_R_exchange κ a0 ((3680 : Int32) * x1) (((3680 : Int32) * x1) + 1) st) (fun s1 => L_R_turns_18 κ (fun (v9 : Nat) (v11 : Int32) (s12 : AS) => L_R_turns_68 κ  FU v9 v11 (0 : Int32) s12) FU a0 x1 (0 : Int32) s1)
theorem l_R_turns_18 {κ : Ko} {F : AS → Prop} {s' : AS} (k : F s') {k_66 : Nat → Int32 → AS → Option AS} (hk_66 : ∀ (a0 : Nat) (x1 : Int32) (st : AS), ly κ a0 = (12, 36) → k_66 a0 x1 st = some s' → V κ M_R_turns (RV F) 66 [some (.ref a0), some (.int x1), none, none] [] st) : ∀ (d : Nat) (a0 : Nat) (x1 : Int32) (x2 : Int32) (st : AS), ly κ a0 = (12, 36) → L_R_turns_18 κ k_66 d a0 x1 x2 st = some s' → V κ M_R_turns (RV F) 18 [some (.ref a0), some (.int x1), some (.int x2), none] [] st := by
  intro d
  induction d with
  | zero =>
    intro a0 x1 x2 st l_a0 h
    exact nn_some h
  | succ d ih =>
    intro a0 x1 x2 st l_a0 h
    rw [L_R_turns_18] at h
    obtain ⟨v2, h5, h⟩ := bnd_some h
    refine b_R_turns_18 (l_a0 := l_a0) (k1 := t_R_sheetOf l_a0 h5 ?_)
    refine b_R_turns_26  (k1 := fun e6 => ?_) (k2 := fun e6 => ?_)
    · replace h := if_t e6 h
      exact hk_66 _ _ _ l_a0 h
    · replace h := if_f e6 h
      obtain ⟨s3, h7, h⟩ := bnd_some h
      refine b_R_turns_29 (l_a0 := l_a0) (k1 := t_R_exchange l_a0 h7 ?_)
      obtain ⟨s4, h8, h⟩ := bnd_some h
      refine b_R_turns_50 (l_a0 := l_a0) (k1 := t_R_exchange l_a0 h8 ?_)
      refine b_R_turns_60  (k1 := ?_)
      exact ih _ _ _ _ l_a0 h
theorem l_R_turns_68 {κ : Ko} {F : AS → Prop} {s' : AS} (k : F s') : ∀ (d : Nat) (a0 : Nat) (x1 : Int32) (x2 : Int32) (st : AS), ly κ a0 = (12, 36) → L_R_turns_68 κ  d a0 x1 x2 st = some s' → V κ M_R_turns (RV F) 68 [some (.ref a0), some (.int x1), some (.int x2), none] [] st := by
  intro d
  induction d with
  | zero =>
    intro a0 x1 x2 st l_a0 h
    exact nn_some h
  | succ d ih =>
    intro a0 x1 x2 st l_a0 h
    rw [L_R_turns_68] at h
    obtain ⟨v13, h16, h⟩ := bnd_some h
    refine b_R_turns_68 (l_a0 := l_a0) (k1 := t_R_sheetOf l_a0 h16 ?_)
    refine b_R_turns_76  (k1 := fun e17 => ?_) (k2 := fun e17 => ?_)
    · replace h := if_t e17 h
      exact b_R_turns_113  (k1 := lfV h k)
    · replace h := if_f e17 h
      obtain ⟨v14, h18, h⟩ := bnd_some h
      refine b_R_turns_79 (l_a0 := l_a0) (k1 := t_R_ridgeOf l_a0 h18 ?_)
      obtain ⟨h15, h⟩ := grd_some h
      refine b_R_turns_105 (l_c0 := (co12 14 50 25760 rfl l_a0)) (b1 := h15) (k2 := ?_)
      exact ih _ _ _ _ l_a0 h
theorem t_R_turns {κ : Ko} {F : AS → Prop} {a0 : Nat} {x1 : Int32} {st : AS} {s' : AS} (l_a0 : ly κ a0 = (12, 36)) (h : f_R_turns κ a0 x1 st = some s') (k : F s') : C κ M_R_turns [.ref a0, .int x1] st (RV F) := by
  unfold f_R_turns at h
  refine e_R_turns ?_
  obtain ⟨s1, h19, h⟩ := bnd_some h
  refine b_R_turns_0 (l_a0 := l_a0) (k1 := t_R_exchange l_a0 h19 ?_)
  refine b_R_turns_16  (k1 := ?_)
  refine l_R_turns_18 k ?_ FU _ _ _ _ l_a0 h
  · intro v9 v11 s12 l10 h
    refine b_R_turns_66  (k1 := ?_)
    refine l_R_turns_68 k FU _ _ _ _ l10 h
noncomputable def f_R_turn (κ : Ko) (a0 : Nat) (x1 : Int32) (st : AS) : Option (Int32 × AS) := if (f_R_isSheet κ a0 x1 st) = 0 then some ((0 : Int32), st) else bnd (f_R_turns κ a0 x1 st) (fun s1 => some ((1 : Int32), s1))
theorem t_R_turn {κ : Ko} {F : Int32 → AS → Prop} {a0 : Nat} {x1 : Int32} {st : AS} {v : Int32} {s' : AS} (l_a0 : ly κ a0 = (12, 36)) (h : f_R_turn κ a0 x1 st = some (v, s')) (k : F v s') : C κ M_R_turn [.ref a0, .int x1] st (RI F) := by
  unfold f_R_turn at h
  refine e_R_turn ?_
  refine b_R_turn_0 (l_a0 := l_a0) (k1 := t_R_isSheet l_a0 rfl ?_)
  refine b_R_turn_5  (k1 := fun e2 => ?_) (k2 := fun e2 => ?_)
  · replace h := if_f e2 h
    obtain ⟨s1, h3, h⟩ := bnd_some h
    refine b_R_turn_10 (l_a0 := l_a0) (k1 := t_R_turns l_a0 h3 ?_)
    exact b_R_turn_15  (k1 := lfI h k)
  · replace h := if_t e2 h
    exact b_R_turn_8  (k1 := lfI h k)
noncomputable def L_R_does_61 (κ : Ko) (k_182 : Nat → Int32 → Int32 → Int32 → Int32 → AS → Option (Int32 × AS)) : Nat → Nat → Int32 → Int32 → Int32 → Int32 → Int32 → Int32 → Int32 → AS → Option (Int32 × AS)
  | 0, _, _, _, _, _, _, _, _, _ => none
  | d + 1, a0, x2, x3, x4, x5, x6, x7, x8, st => if x7 ≤ x8 then k_182 a0 x2 x3 x4 x5 st else jn (jn (fun (s13 : AS) => jn (fun (s19 : AS) => jn (fun (s23 : AS) => L_R_does_61 κ k_182 d a0 x2 x3 (x4 + 1) x5 x6 x7 (x8 + 1) s23) fun j22 => grd (vp_in x6 1080) (if (gi s19 (a0 + 5) (x6 : Int32).toNatClampNeg) = 2 then bnd (f_R_turns κ a0 x2 s19) (fun s21 => j22 s21) else j22 s19)) fun j18 => grd (vp_in x6 1080) (if (gi s13 (a0 + 5) (x6 : Int32).toNatClampNeg) = 0 then grd (vp_in (x6 + 1) 1080) (bnd2 (f_R_presses κ a0 x2 (gi s13 (a0 + 5) (x6 + 1 : Int32).toNatClampNeg) s13) (fun v16 s17 => j18 s17)) else j18 s13)) fun j12 => grd (vp_in x6 1080) (if (gi st (a0 + 5) (x6 : Int32).toNatClampNeg) = 1 then grd (vp_in (x6 + 1) 1080) (grd (vp_in (x6 + 2) 1080) (bnd2 (f_R_foldsAt κ a0 x2 (gi st (a0 + 5) (x6 + 1 : Int32).toNatClampNeg) (gi st (a0 + 5) (x6 + 2 : Int32).toNatClampNeg) st) (fun v10 s11 => if 0 ≤ v10 then j12 s11 else some (x4, s11)))) else j12 st)) fun j6 => grd (vp_in x6 1080) (if (gi st (a0 + 5) (x6 : Int32).toNatClampNeg) = 0 then bnd (f_R_sheetOf κ a0 x2 (5 : Int32) st) (fun v5 => if v5 = 60 then some (x4, st) else j6) else j6)
noncomputable def L_R_does_11 (κ : Ko) : Nat → Nat → Int32 → Int32 → Int32 → Int32 → AS → Option (Int32 × AS)
  | 0, _, _, _, _, _, _ => none
  | d + 1, a0, x2, x3, x4, x5, st => grd (vp_in x3 18) (if (gi st (a0 + 6) (x3 : Int32).toNatClampNeg) ≤ x5 then some (x4, st) else grd (vp_in (((60 : Int32) * x3) + ((5 : Int32) * x5)) 1080) (if (gi st (a0 + 5) (((60 : Int32) * x3) + ((5 : Int32) * x5) : Int32).toNatClampNeg) = 0 then grd (vp_in ((((60 : Int32) * x3) + ((5 : Int32) * x5)) + 2) 1080) (L_R_does_61 κ (fun (v42 : Nat) (v44 : Int32) (v45 : Int32) (v46 : Int32) (v47 : Int32) (s48 : AS) => L_R_does_11 κ  d v42 v44 v45 v46 (v47 + 1) s48) FU a0 x2 x3 x4 x5 (((60 : Int32) * x3) + ((5 : Int32) * x5)) (gi st (a0 + 5) ((((60 : Int32) * x3) + ((5 : Int32) * x5)) + 2 : Int32).toNatClampNeg) (0 : Int32) st) else L_R_does_61 κ (fun (v35 : Nat) (v37 : Int32) (v38 : Int32) (v39 : Int32) (v40 : Int32) (s41 : AS) => L_R_does_11 κ  d v35 v37 v38 v39 (v40 + 1) s41) FU a0 x2 x3 x4 x5 (((60 : Int32) * x3) + ((5 : Int32) * x5)) (1 : Int32) (0 : Int32) st))
noncomputable def f_R_does (κ : Ko) (a0 : Nat) (x1 : Int32) (x2 : Int32) (st : AS) : Option (Int32 × AS) := L_R_does_11 κ  FU a0 x2 ((6 : Int32) + x1) (0 : Int32) (0 : Int32) st
theorem l_R_does_61 {κ : Ko} {F : Int32 → AS → Prop} {v : Int32} {s' : AS} (k : F v s') {k_182 : Nat → Int32 → Int32 → Int32 → Int32 → AS → Option (Int32 × AS)} (hk_182 : ∀ (a0 : Nat) (x2 : Int32) (x3 : Int32) (x4 : Int32) (x5 : Int32) (st : AS), ly κ a0 = (12, 36) → k_182 a0 x2 x3 x4 x5 st = some (v, s') → V κ M_R_does (RI F) 182 [some (.ref a0), none, some (.int x2), some (.int x3), some (.int x4), some (.int x5), none, none, none] [] st) : ∀ (d : Nat) (a0 : Nat) (x2 : Int32) (x3 : Int32) (x4 : Int32) (x5 : Int32) (x6 : Int32) (x7 : Int32) (x8 : Int32) (st : AS), ly κ a0 = (12, 36) → L_R_does_61 κ k_182 d a0 x2 x3 x4 x5 x6 x7 x8 st = some (v, s') → V κ M_R_does (RI F) 61 [some (.ref a0), none, some (.int x2), some (.int x3), some (.int x4), some (.int x5), some (.int x6), some (.int x7), some (.int x8)] [] st := by
  intro d
  induction d with
  | zero =>
    intro a0 x2 x3 x4 x5 x6 x7 x8 st l_a0 h
    exact nn_some h
  | succ d ih =>
    intro a0 x2 x3 x4 x5 x6 x7 x8 st l_a0 h
    rw [L_R_does_61] at h
    refine b_R_does_61  (k1 := fun e24 => ?_) (k2 := fun e24 => ?_)
    · replace h := if_t e24 h
      exact hk_182 _ _ _ _ _ _ l_a0 h
    · replace h := if_f e24 h
      obtain ⟨j6, hdj6, h⟩ := jn_some h
      have hj6 : j6 = some (v, s') → V κ M_R_does (RI F) 92 [some (.ref a0), none, some (.int x2), some (.int x3), some (.int x4), some (.int x5), some (.int x6), some (.int x7), some (.int x8)] [] st := by
        intro h
        rw [hdj6] at h
        obtain ⟨j12, hdj12, h⟩ := jn_some h
        have hj12 : ∀ (s13 : AS), j12 s13 = some (v, s') → V κ M_R_does (RI F) 132 [some (.ref a0), none, some (.int x2), some (.int x3), some (.int x4), some (.int x5), some (.int x6), some (.int x7), some (.int x8)] [] s13 := by
          intro s13 h
          rw [hdj12] at h
          obtain ⟨j18, hdj18, h⟩ := jn_some h
          have hj18 : ∀ (s19 : AS), j18 s19 = some (v, s') → V κ M_R_does (RI F) 157 [some (.ref a0), none, some (.int x2), some (.int x3), some (.int x4), some (.int x5), some (.int x6), some (.int x7), some (.int x8)] [] s19 := by
            intro s19 h
            rw [hdj18] at h
            obtain ⟨j22, hdj22, h⟩ := jn_some h
            have hj22 : ∀ (s23 : AS), j22 s23 = some (v, s') → V κ M_R_does (RI F) 173 [some (.ref a0), none, some (.int x2), some (.int x3), some (.int x4), some (.int x5), some (.int x6), some (.int x7), some (.int x8)] [] s23 := by
              intro s23 h
              rw [hdj22] at h
              refine b_R_does_173  (k1 := ?_)
              exact ih _ _ _ _ _ _ _ _ _ l_a0 h
            clear hdj22
            obtain ⟨h20, h⟩ := grd_some h
            refine b_R_does_157 (l_a0 := l_a0) (b1 := h20) (k2 := fun e25 => ?_) (k3 := fun e25 => ?_)
            · replace h := if_f e25 h
              exact hj22 _  h
            · replace h := if_t e25 h
              obtain ⟨s21, h26, h⟩ := bnd_some h
              refine b_R_does_168 (l_a0 := l_a0) (k1 := t_R_turns l_a0 h26 ?_)
              exact hj22 _  h
          clear hdj18
          obtain ⟨h14, h⟩ := grd_some h
          refine b_R_does_132 (l_a0 := l_a0) (b1 := h14) (k2 := fun e27 => ?_) (k3 := fun e27 => ?_)
          · replace h := if_f e27 h
            exact hj18 _  h
          · replace h := if_t e27 h
            obtain ⟨h15, h⟩ := grd_some h
            obtain ⟨v16, s17, h28, h⟩ := bnd2_some h
            refine b_R_does_142 (l_a0 := l_a0) (b1 := h15) (k2 := t_R_presses l_a0 h28 ?_)
            refine b_R_does_156  (k1 := ?_)
            exact hj18 _  h
        clear hdj12
        obtain ⟨h7, h⟩ := grd_some h
        refine b_R_does_92 (l_a0 := l_a0) (b1 := h7) (k2 := fun e29 => ?_) (k3 := fun e29 => ?_)
        · replace h := if_f e29 h
          exact hj12 _  h
        · replace h := if_t e29 h
          obtain ⟨h8, h⟩ := grd_some h
          obtain ⟨h9, h⟩ := grd_some h
          obtain ⟨v10, s11, h30, h⟩ := bnd2_some h
          refine b_R_does_103 (l_a0 := l_a0) (b1 := h8) (b2 := h9) (k3 := t_R_foldsAt l_a0 h30 ?_)
          refine b_R_does_126  (k1 := fun e31 => ?_) (k2 := fun e31 => ?_)
          · replace h := if_t e31 h
            exact hj12 _  h
          · replace h := if_f e31 h
            exact b_R_does_129  (k1 := lfI h k)
      clear hdj6
      obtain ⟨h4, h⟩ := grd_some h
      refine b_R_does_68 (l_a0 := l_a0) (b1 := h4) (k2 := fun e32 => ?_) (k3 := fun e32 => ?_)
      · replace h := if_f e32 h
        exact hj6  h
      · replace h := if_t e32 h
        obtain ⟨v5, h33, h⟩ := bnd_some h
        refine b_R_does_78 (l_a0 := l_a0) (k1 := t_R_sheetOf l_a0 h33 ?_)
        refine b_R_does_84  (k1 := fun e34 => ?_) (k2 := fun e34 => ?_)
        · replace h := if_f e34 h
          exact hj6  h
        · replace h := if_t e34 h
          exact b_R_does_89  (k1 := lfI h k)
theorem l_R_does_11 {κ : Ko} {F : Int32 → AS → Prop} {v : Int32} {s' : AS} (k : F v s') : ∀ (d : Nat) (a0 : Nat) (x2 : Int32) (x3 : Int32) (x4 : Int32) (x5 : Int32) (st : AS), ly κ a0 = (12, 36) → L_R_does_11 κ  d a0 x2 x3 x4 x5 st = some (v, s') → V κ M_R_does (RI F) 11 [some (.ref a0), none, some (.int x2), some (.int x3), some (.int x4), some (.int x5), none, none, none] [] st := by
  intro d
  induction d with
  | zero =>
    intro a0 x2 x3 x4 x5 st l_a0 h
    exact nn_some h
  | succ d ih =>
    intro a0 x2 x3 x4 x5 st l_a0 h
    rw [L_R_does_11] at h
    obtain ⟨h1, h⟩ := grd_some h
    refine b_R_does_11 (l_a0 := l_a0) (b1 := h1) (k2 := fun e49 => ?_) (k3 := fun e49 => ?_)
    · replace h := if_t e49 h
      exact b_R_does_188  (k1 := lfI h k)
    · replace h := if_f e49 h
      obtain ⟨h2, h⟩ := grd_some h
      refine b_R_does_22 (l_a0 := l_a0) (b1 := h2) (k2 := fun e50 => ?_) (k3 := fun e50 => ?_)
      · replace h := if_f e50 h
        refine b_R_does_55  (k1 := ?_)
        refine l_R_does_61 k ?_ FU _ _ _ _ _ _ _ _ _ l_a0 h
        · intro v35 v37 v38 v39 v40 s41 l36 h
          refine b_R_does_182  (k1 := ?_)
          exact ih _ _ _ _ _ _ l36 h
      · replace h := if_t e50 h
        obtain ⟨h3, h⟩ := grd_some h
        refine b_R_does_43 (l_a0 := l_a0) (b1 := h3) (k2 := ?_)
        refine l_R_does_61 k ?_ FU _ _ _ _ _ _ _ _ _ l_a0 h
        · intro v42 v44 v45 v46 v47 s48 l43 h
          refine b_R_does_182  (k1 := ?_)
          exact ih _ _ _ _ _ _ l43 h
theorem t_R_does {κ : Ko} {F : Int32 → AS → Prop} {a0 : Nat} {x1 : Int32} {x2 : Int32} {st : AS} {v : Int32} {s' : AS} (l_a0 : ly κ a0 = (12, 36)) (h : f_R_does κ a0 x1 x2 st = some (v, s')) (k : F v s') : C κ M_R_does [.ref a0, .int x1, .int x2] st (RI F) := by
  unfold f_R_does at h
  refine e_R_does ?_
  refine b_R_does_0  (k1 := ?_)
  refine l_R_does_11 k FU _ _ _ _ _ _ l_a0 h
noncomputable def f_R_done (κ : Ko) (a0 : Nat) (x1 : Int32) (x2 : Int32) (st : AS) : Option (Int32 × AS) := bnd (f_R_isText κ a0 (1 : Int32) x1 st) (fun v1 => jn (some (((-1) : Int32), st)) fun j4 => if v1 = 0 then j4 else if (f_R_isSheet κ a0 x2 st) = 0 then j4 else bnd2 (f_R_does κ a0 x1 x2 st) (fun v2 s3 => some (v2, s3)))
theorem t_R_done {κ : Ko} {F : Int32 → AS → Prop} {a0 : Nat} {x1 : Int32} {x2 : Int32} {st : AS} {v : Int32} {s' : AS} (l_a0 : ly κ a0 = (12, 36)) (h : f_R_done κ a0 x1 x2 st = some (v, s')) (k : F v s') : C κ M_R_done [.ref a0, .int x1, .int x2] st (RI F) := by
  unfold f_R_done at h
  refine e_R_done ?_
  obtain ⟨v1, h5, h⟩ := bnd_some h
  refine b_R_done_0 (l_a0 := l_a0) (k1 := t_R_isText l_a0 h5 ?_)
  obtain ⟨j4, hdj4, h⟩ := jn_some h
  have hj4 : j4 = some (v, s') → V κ M_R_done (RI F) 26 [none, none, none] [] st := by
    intro h
    rw [hdj4] at h
    exact b_R_done_26  (k1 := lfI h k)
  clear hdj4
  refine b_R_done_6  (k1 := fun e6 => ?_) (k2 := fun e6 => ?_)
  · replace h := if_t e6 h
    exact hj4  h
  · replace h := if_f e6 h
    refine b_R_done_9 (l_a0 := l_a0) (k1 := t_R_isSheet l_a0 rfl ?_)
    refine b_R_done_14  (k1 := fun e7 => ?_) (k2 := fun e7 => ?_)
    · replace h := if_t e7 h
      exact hj4  h
    · replace h := if_f e7 h
      obtain ⟨v2, s3, h8, h⟩ := bnd2_some h
      refine b_R_done_17 (l_a0 := l_a0) (k1 := t_R_does l_a0 h8 ?_)
      exact b_R_done_23  (k1 := lfI h k)
noncomputable def f_R_facet (κ : Ko) (a0 : Nat) (x1 : Int32) (x2 : Int32) (x3 : Int32) (st : AS) : Option Int32 := jn (some ((-1) : Int32)) fun j4 => if (f_R_isSheet κ a0 x1 st) = 0 then j4 else bnd (f_R_sheetOf κ a0 x1 (6 : Int32) st) (fun v1 => if (wi ((x2 : Int32).toInt64) (0 : Int64) ((v1 - 1 : Int32).toInt64)) = 0 then j4 else if (wi ((x3 : Int32).toInt64) (0 : Int64) (4 : Int64)) = 0 then j4 else if 4 ≤ x3 then bnd (f_R_edgeOf κ a0 x1 x2 st) (fun v2 => some v2) else bnd (f_R_facetOf κ a0 x1 x2 x3 st) (fun v3 => some v3))
theorem t_R_facet {κ : Ko} {F : Int32 → AS → Prop} {a0 : Nat} {x1 : Int32} {x2 : Int32} {x3 : Int32} {st : AS} {v : Int32} (l_a0 : ly κ a0 = (12, 36)) (h : f_R_facet κ a0 x1 x2 x3 st = some v) (k : F v st) : C κ M_R_facet [.ref a0, .int x1, .int x2, .int x3] st (RI F) := by
  unfold f_R_facet at h
  refine e_R_facet ?_
  refine b_R_facet_0 (l_a0 := l_a0) (k1 := t_R_isSheet l_a0 rfl ?_)
  obtain ⟨j4, hdj4, h⟩ := jn_some h
  have hj4 : j4 = some v → V κ M_R_facet (RI F) 39 [none, none, none, none] [] st := by
    intro h
    rw [hdj4] at h
    exact b_R_facet_39  (k1 := lfIP h k)
  clear hdj4
  refine b_R_facet_5  (k1 := fun e5 => ?_) (k2 := fun e5 => ?_)
  · replace h := if_t e5 h
    exact hj4  h
  · replace h := if_f e5 h
    obtain ⟨v1, h6, h⟩ := bnd_some h
    refine b_R_facet_8 (l_a0 := l_a0) (k1 := t_R_sheetOf l_a0 h6 ?_)
    refine b_R_facet_18  (k1 := t_R_in  rfl ?_)
    refine b_R_facet_24  (k1 := fun e7 => ?_) (k2 := fun e7 => ?_)
    · replace h := if_t e7 h
      exact hj4  h
    · replace h := if_f e7 h
      refine b_R_facet_27  (k1 := t_R_in  rfl ?_)
      refine b_R_facet_36  (k1 := fun e8 => ?_) (k2 := fun e8 => ?_)
      · replace h := if_f e8 h
        refine b_R_facet_41  (k1 := fun e9 => ?_) (k2 := fun e9 => ?_)
        · replace h := if_t e9 h
          obtain ⟨v2, h10, h⟩ := bnd_some h
          refine b_R_facet_56 (l_a0 := l_a0) (k1 := t_R_edgeOf l_a0 h10 ?_)
          exact b_R_facet_62  (k1 := lfIP h k)
        · replace h := if_f e9 h
          obtain ⟨v3, h11, h⟩ := bnd_some h
          refine b_R_facet_46 (l_a0 := l_a0) (k1 := t_R_facetOf l_a0 h11 ?_)
          exact b_R_facet_53  (k1 := lfIP h k)
      · replace h := if_t e8 h
        exact hj4  h
noncomputable def f_R_ridge (κ : Ko) (a0 : Nat) (x1 : Int32) (x2 : Int32) (x3 : Int32) (st : AS) : Option Int32 := jn (some ((-1) : Int32)) fun j3 => if (f_R_isSheet κ a0 x1 st) = 0 then j3 else bnd (f_R_sheetOf κ a0 x1 (7 : Int32) st) (fun v1 => if (wi ((x2 : Int32).toInt64) (0 : Int64) ((v1 - 1 : Int32).toInt64)) = 0 then j3 else if (wi ((x3 : Int32).toInt64) (0 : Int64) (6 : Int64)) = 0 then j3 else bnd (f_R_ridgeOf κ a0 x1 x2 x3 st) (fun v2 => some v2))
theorem t_R_ridge {κ : Ko} {F : Int32 → AS → Prop} {a0 : Nat} {x1 : Int32} {x2 : Int32} {x3 : Int32} {st : AS} {v : Int32} (l_a0 : ly κ a0 = (12, 36)) (h : f_R_ridge κ a0 x1 x2 x3 st = some v) (k : F v st) : C κ M_R_ridge [.ref a0, .int x1, .int x2, .int x3] st (RI F) := by
  unfold f_R_ridge at h
  refine e_R_ridge ?_
  refine b_R_ridge_0 (l_a0 := l_a0) (k1 := t_R_isSheet l_a0 rfl ?_)
  obtain ⟨j3, hdj3, h⟩ := jn_some h
  have hj3 : j3 = some v → V κ M_R_ridge (RI F) 49 [none, none, none, none] [] st := by
    intro h
    rw [hdj3] at h
    exact b_R_ridge_49  (k1 := lfIP h k)
  clear hdj3
  refine b_R_ridge_5  (k1 := fun e4 => ?_) (k2 := fun e4 => ?_)
  · replace h := if_t e4 h
    exact hj3  h
  · replace h := if_f e4 h
    obtain ⟨v1, h5, h⟩ := bnd_some h
    refine b_R_ridge_8 (l_a0 := l_a0) (k1 := t_R_sheetOf l_a0 h5 ?_)
    refine b_R_ridge_18  (k1 := t_R_in  rfl ?_)
    refine b_R_ridge_24  (k1 := fun e6 => ?_) (k2 := fun e6 => ?_)
    · replace h := if_t e6 h
      exact hj3  h
    · replace h := if_f e6 h
      refine b_R_ridge_27  (k1 := t_R_in  rfl ?_)
      refine b_R_ridge_36  (k1 := fun e7 => ?_) (k2 := fun e7 => ?_)
      · replace h := if_t e7 h
        exact hj3  h
      · replace h := if_f e7 h
        obtain ⟨v2, h8, h⟩ := bnd_some h
        refine b_R_ridge_39 (l_a0 := l_a0) (k1 := t_R_ridgeOf l_a0 h8 ?_)
        exact b_R_ridge_46  (k1 := lfIP h k)
noncomputable def f_R_isSoft (κ : Ko) (a0 : Nat) (x1 : Int32) (x2 : Int32) (st : AS) : Option Int32 := bnd (f_R_ridgeOf κ a0 x1 x2 (6 : Int32) st) (fun v1 => bnd (f_R_sheetOf κ a0 x1 (2 : Int32) st) (fun v2 => grd (vp_in v2 6) (if v1 < (gi st (a0 + 7) (v2 : Int32).toNatClampNeg) then some (0 : Int32) else some (1 : Int32))))
theorem t_R_isSoft {κ : Ko} {F : Int32 → AS → Prop} {a0 : Nat} {x1 : Int32} {x2 : Int32} {st : AS} {v : Int32} (l_a0 : ly κ a0 = (12, 36)) (h : f_R_isSoft κ a0 x1 x2 st = some v) (k : F v st) : C κ M_R_isSoft [.ref a0, .int x1, .int x2] st (RI F) := by
  unfold f_R_isSoft at h
  refine e_R_isSoft ?_
  obtain ⟨v1, h4, h⟩ := bnd_some h
  refine b_R_isSoft_0 (l_a0 := l_a0) (k1 := t_R_ridgeOf l_a0 h4 ?_)
  obtain ⟨v2, h5, h⟩ := bnd_some h
  refine b_R_isSoft_8 (l_a0 := l_a0) (k1 := t_R_sheetOf l_a0 h5 ?_)
  obtain ⟨h3, h⟩ := grd_some h
  refine b_R_isSoft_18 (l_c1 := (co12 7 50 6 rfl l_a0)) (b1 := h3) (k2 := fun e6 => ?_) (k3 := fun e6 => ?_)
  · replace h := if_t e6 h
    exact b_R_isSoft_26  (k1 := lfIP h k)
  · replace h := if_f e6 h
    exact b_R_isSoft_22  (k1 := lfIP h k)
noncomputable def L_R_of_38 (κ : Ko) (st : AS) (k_74 : Nat → Int32 → Int32 → Int32 → Option Int32) : Nat → Nat → Int32 → Int32 → Int32 → Int32 → Option Int32
  | 0, _, _, _, _, _ => none
  | d + 1, a0, x1, x2, x3, x4 => bnd (f_R_sheetOf κ a0 x1 (7 : Int32) st) (fun v1 => if v1 ≤ x4 then k_74 a0 x1 x2 x3 else bnd (f_R_isSoft κ a0 x1 x4 st) (fun v2 => L_R_of_38 κ st k_74 d a0 x1 x2 (if v2 = 0 then x3 + 0 else x3 + 1 : Int32) (x4 + 1)))
noncomputable def f_R_of (κ : Ko) (a0 : Nat) (x1 : Int32) (x2 : Int32) (st : AS) : Option Int32 := jn (some ((-1) : Int32)) fun j19 => if (f_R_isSheet κ a0 x1 st) = 0 then j19 else if (wi ((x2 : Int32).toInt64) (0 : Int64) (6 : Int64)) = 0 then j19 else if x2 = 5 then bnd (f_R_together κ a0 x1 st) (fun v18 => some v18) else L_R_of_38 κ st (fun (v9 : Nat) (v11 : Int32) (v12 : Int32) (v13 : Int32) => if v12 = 6 then some v13 else jn (fun (v17 : Int32) => some v17) fun j16 => if 2 ≤ v12 then bnd (f_R_sheetOf κ v9 v11 (v12 + 3) st) (fun v14 => j16 v14) else bnd (f_R_sheetOf κ v9 v11 v12 st) (fun v15 => j16 v15)) FU a0 x1 x2 (0 : Int32) (0 : Int32)
theorem l_R_of_38 {κ : Ko} {F : Int32 → AS → Prop} {v : Int32} {st : AS} (k : F v st) {k_74 : Nat → Int32 → Int32 → Int32 → Option Int32} (hk_74 : ∀ (a0 : Nat) (x1 : Int32) (x2 : Int32) (x3 : Int32), ly κ a0 = (12, 36) → k_74 a0 x1 x2 x3 = some v → V κ M_R_of (RI F) 74 [some (.ref a0), some (.int x1), some (.int x2), some (.int x3), none] [] st) : ∀ (d : Nat) (a0 : Nat) (x1 : Int32) (x2 : Int32) (x3 : Int32) (x4 : Int32), ly κ a0 = (12, 36) → L_R_of_38 κ st k_74 d a0 x1 x2 x3 x4 = some v → V κ M_R_of (RI F) 38 [some (.ref a0), some (.int x1), some (.int x2), some (.int x3), some (.int x4)] [] st := by
  intro d
  induction d with
  | zero =>
    intro a0 x1 x2 x3 x4 l_a0 h
    exact nn_some h
  | succ d ih =>
    intro a0 x1 x2 x3 x4 l_a0 h
    rw [L_R_of_38] at h
    obtain ⟨v1, h3, h⟩ := bnd_some h
    refine b_R_of_38 (l_a0 := l_a0) (k1 := t_R_sheetOf l_a0 h3 ?_)
    refine b_R_of_47  (k1 := fun e4 => ?_) (k2 := fun e4 => ?_)
    · replace h := if_t e4 h
      exact hk_74 _ _ _ _ l_a0 h
    · replace h := if_f e4 h
      obtain ⟨v2, h5, h⟩ := bnd_some h
      refine b_R_of_50 (l_a0 := l_a0) (k1 := t_R_isSoft l_a0 h5 ?_)
      have K7 : V κ M_R_of (RI F) 38 [some (.ref a0), some (.int x1), some (.int x2), some (.int (if v2 = 0 then x3 + 0 else x3 + 1 : Int32)), some (.int (x4 + 1))] [] st := by
        exact ih _ _ _ _ _ l_a0 h
      refine b_R_of_58  (k1 := fun e8 => ?_) (k2 := fun e8 => ?_)
      · refine b_R_of_65  (k1 := ?_)
        exact (ite_t (P := fun z => V κ M_R_of (RI F) 38 [some (.ref a0), some (.int x1), some (.int x2), some (.int z), some (.int (x4 + 1))] [] st) e8 K7)
      · refine b_R_of_61  (k1 := ?_)
        exact (ite_f (P := fun z => V κ M_R_of (RI F) 38 [some (.ref a0), some (.int x1), some (.int x2), some (.int z), some (.int (x4 + 1))] [] st) e8 K7)
theorem t_R_of {κ : Ko} {F : Int32 → AS → Prop} {a0 : Nat} {x1 : Int32} {x2 : Int32} {st : AS} {v : Int32} (l_a0 : ly κ a0 = (12, 36)) (h : f_R_of κ a0 x1 x2 st = some v) (k : F v st) : C κ M_R_of [.ref a0, .int x1, .int x2] st (RI F) := by
  unfold f_R_of at h
  refine e_R_of ?_
  refine b_R_of_0 (l_a0 := l_a0) (k1 := t_R_isSheet l_a0 rfl ?_)
  obtain ⟨j19, hdj19, h⟩ := jn_some h
  have hj19 : j19 = some v → V κ M_R_of (RI F) 20 [none, none, none, none, none] [] st := by
    intro h
    rw [hdj19] at h
    exact b_R_of_20  (k1 := lfIP h k)
  clear hdj19
  refine b_R_of_5  (k1 := fun e20 => ?_) (k2 := fun e20 => ?_)
  · replace h := if_t e20 h
    exact hj19  h
  · replace h := if_f e20 h
    refine b_R_of_8  (k1 := t_R_in  rfl ?_)
    refine b_R_of_17  (k1 := fun e21 => ?_) (k2 := fun e21 => ?_)
    · replace h := if_f e21 h
      refine b_R_of_22  (k1 := fun e22 => ?_) (k2 := fun e22 => ?_)
      · replace h := if_f e22 h
        refine b_R_of_33  (k1 := ?_)
        refine l_R_of_38 k ?_ FU _ _ _ _ _ l_a0 h
        · intro v9 v11 v12 v13 l10 h
          refine b_R_of_74  (k1 := fun e23 => ?_) (k2 := fun e23 => ?_)
          · replace h := if_f e23 h
            obtain ⟨j16, hdj16, h⟩ := jn_some h
            have hj16 : ∀ (v17 : Int32), j16 v17 = some v → V κ M_R_of (RI F) 101 [none, none, none, none, none] [.int v17] st := by
              intro v17 h
              rw [hdj16] at h
              exact b_R_of_101  (k1 := lfIP h k)
            clear hdj16
            refine b_R_of_84  (k1 := fun e24 => ?_) (k2 := fun e24 => ?_)
            · replace h := if_t e24 h
              refine b_R_of_95  (k1 := ?_)
              obtain ⟨v14, h25, h⟩ := bnd_some h
              refine b_R_of_98_v1 (l_c0 := l10) (k1 := t_R_sheetOf l10 h25 ?_)
              exact hj16 _  h
            · replace h := if_f e24 h
              refine b_R_of_91  (k1 := ?_)
              obtain ⟨v15, h26, h⟩ := bnd_some h
              refine b_R_of_98_v0 (l_c0 := l10) (k1 := t_R_sheetOf l10 h26 ?_)
              exact hj16 _  h
          · replace h := if_t e23 h
            exact b_R_of_80  (k1 := lfIP h k)
      · replace h := if_t e22 h
        obtain ⟨v18, h27, h⟩ := bnd_some h
        refine b_R_of_27 (l_a0 := l_a0) (k1 := t_R_together l_a0 h27 ?_)
        exact b_R_of_32  (k1 := lfIP h k)
    · replace h := if_t e21 h
      exact hj19  h
noncomputable def L_R_cameIn_6 (κ : Ko) (st : AS) : Nat → Nat → Int32 → Int32 → Int32 → Int32 → Int32 → Int32 → Option Int32
  | 0, _, _, _, _, _, _, _ => none
  | d + 1, a0, x1, x2, x3, x4, x5, x6 => bnd (f_R_sheetOf κ a0 x1 (7 : Int32) st) (fun v1 => if v1 ≤ x6 then some x5 else bnd (f_R_ridgeOf κ a0 x1 x6 (4 : Int32) st) (fun v2 => jn (L_R_cameIn_6 κ st  d a0 x1 x2 x3 x4 (x5 + 0) (x6 + 1)) fun j6 => if (wi ((v2 : Int32).toInt64) ((x2 : Int32).toInt64) ((x3 : Int32).toInt64)) = 0 then j6 else jn (bnd (f_R_longOf κ a0 x1 x6 st) (fun v5 => L_R_cameIn_6 κ st  d a0 x1 x2 x3 x4 (x5 + v5) (x6 + 1))) fun j4 => if x4 = 0 then j4 else bnd (f_R_ridgeOf κ a0 x1 x6 (5 : Int32) st) (fun v3 => if v3 = 0 then j4 else j6)))
noncomputable def f_R_cameIn (κ : Ko) (a0 : Nat) (x1 : Int32) (x2 : Int32) (x3 : Int32) (x4 : Int32) (st : AS) : Option Int32 := L_R_cameIn_6 κ st  FU a0 x1 x2 x3 x4 (0 : Int32) (0 : Int32)
theorem l_R_cameIn_6 {κ : Ko} {F : Int32 → AS → Prop} {v : Int32} {st : AS} (k : F v st) : ∀ (d : Nat) (a0 : Nat) (x1 : Int32) (x2 : Int32) (x3 : Int32) (x4 : Int32) (x5 : Int32) (x6 : Int32), ly κ a0 = (12, 36) → L_R_cameIn_6 κ st  d a0 x1 x2 x3 x4 x5 x6 = some v → V κ M_R_cameIn (RI F) 6 [some (.ref a0), some (.int x1), some (.int x2), some (.int x3), some (.int x4), some (.int x5), some (.int x6)] [] st := by
  intro d
  induction d with
  | zero =>
    intro a0 x1 x2 x3 x4 x5 x6 l_a0 h
    exact nn_some h
  | succ d ih =>
    intro a0 x1 x2 x3 x4 x5 x6 l_a0 h
    rw [L_R_cameIn_6] at h
    obtain ⟨v1, h7, h⟩ := bnd_some h
    refine b_R_cameIn_6 (l_a0 := l_a0) (k1 := t_R_sheetOf l_a0 h7 ?_)
    refine b_R_cameIn_15  (k1 := fun e8 => ?_) (k2 := fun e8 => ?_)
    · replace h := if_t e8 h
      exact b_R_cameIn_75  (k1 := lfIP h k)
    · replace h := if_f e8 h
      obtain ⟨v2, h9, h⟩ := bnd_some h
      refine b_R_cameIn_18 (l_a0 := l_a0) (k1 := t_R_ridgeOf l_a0 h9 ?_)
      refine b_R_cameIn_28  (k1 := t_R_in  rfl ?_)
      obtain ⟨j6, hdj6, h⟩ := jn_some h
      have hj6 : j6 = some v → V κ M_R_cameIn (RI F) 65 [some (.ref a0), some (.int x1), some (.int x2), some (.int x3), some (.int x4), none, some (.int x6)] [.int x5] st := by
        intro h
        rw [hdj6] at h
        refine b_R_cameIn_65  (k1 := ?_)
        exact ih _ _ _ _ _ _ _ l_a0 h
      clear hdj6
      refine b_R_cameIn_36  (k1 := fun e10 => ?_) (k2 := fun e10 => ?_)
      · replace h := if_t e10 h
        exact hj6  h
      · replace h := if_f e10 h
        obtain ⟨j4, hdj4, h⟩ := jn_some h
        have hj4 : j4 = some v → V κ M_R_cameIn (RI F) 55 [some (.ref a0), some (.int x1), some (.int x2), some (.int x3), some (.int x4), none, some (.int x6)] [.int x5] st := by
          intro h
          rw [hdj4] at h
          obtain ⟨v5, h11, h⟩ := bnd_some h
          refine b_R_cameIn_55 (l_a0 := l_a0) (k1 := t_R_longOf l_a0 h11 ?_)
          refine b_R_cameIn_62  (k1 := ?_)
          exact ih _ _ _ _ _ _ _ l_a0 h
        clear hdj4
        refine b_R_cameIn_39  (k1 := fun e12 => ?_) (k2 := fun e12 => ?_)
        · replace h := if_t e12 h
          exact hj4  h
        · replace h := if_f e12 h
          obtain ⟨v3, h13, h⟩ := bnd_some h
          refine b_R_cameIn_44 (l_a0 := l_a0) (k1 := t_R_ridgeOf l_a0 h13 ?_)
          refine b_R_cameIn_52  (k1 := fun e14 => ?_) (k2 := fun e14 => ?_)
          · replace h := if_f e14 h
            exact hj6  h
          · replace h := if_t e14 h
            exact hj4  h
theorem t_R_cameIn {κ : Ko} {F : Int32 → AS → Prop} {a0 : Nat} {x1 : Int32} {x2 : Int32} {x3 : Int32} {x4 : Int32} {st : AS} {v : Int32} (l_a0 : ly κ a0 = (12, 36)) (h : f_R_cameIn κ a0 x1 x2 x3 x4 st = some v) (k : F v st) : C κ M_R_cameIn [.ref a0, .int x1, .int x2, .int x3, .int x4] st (RI F) := by
  unfold f_R_cameIn at h
  refine e_R_cameIn ?_
  refine b_R_cameIn_0  (k1 := ?_)
  refine l_R_cameIn_6 k FU _ _ _ _ _ _ _ l_a0 h
noncomputable def f_R_length (κ : Ko) (a0 : Nat) (x1 : Int32) (x2 : Int32) (st : AS) : Option Int32 := jn (some ((-1) : Int32)) fun j2 => if (f_R_isSheet κ a0 x1 st) = 0 then j2 else if (wi ((x2 : Int32).toInt64) (0 : Int64) (60 : Int64)) = 0 then j2 else bnd (f_R_cameIn κ a0 x1 (0 : Int32) x2 (0 : Int32) st) (fun v1 => some v1)
theorem t_R_length {κ : Ko} {F : Int32 → AS → Prop} {a0 : Nat} {x1 : Int32} {x2 : Int32} {st : AS} {v : Int32} (l_a0 : ly κ a0 = (12, 36)) (h : f_R_length κ a0 x1 x2 st = some v) (k : F v st) : C κ M_R_length [.ref a0, .int x1, .int x2] st (RI F) := by
  unfold f_R_length at h
  refine e_R_length ?_
  refine b_R_length_0 (l_a0 := l_a0) (k1 := t_R_isSheet l_a0 rfl ?_)
  obtain ⟨j2, hdj2, h⟩ := jn_some h
  have hj2 : j2 = some v → V κ M_R_length (RI F) 31 [none, none, none] [] st := by
    intro h
    rw [hdj2] at h
    exact b_R_length_31  (k1 := lfIP h k)
  clear hdj2
  refine b_R_length_5  (k1 := fun e3 => ?_) (k2 := fun e3 => ?_)
  · replace h := if_t e3 h
    exact hj2  h
  · replace h := if_f e3 h
    refine b_R_length_8  (k1 := t_R_in  rfl ?_)
    refine b_R_length_17  (k1 := fun e4 => ?_) (k2 := fun e4 => ?_)
    · replace h := if_t e4 h
      exact hj2  h
    · replace h := if_f e4 h
      obtain ⟨v1, h5, h⟩ := bnd_some h
      refine b_R_length_20 (l_a0 := l_a0) (k1 := t_R_cameIn l_a0 h5 ?_)
      exact b_R_length_28  (k1 := lfIP h k)
noncomputable def f_R_adds (κ : Ko) (a0 : Nat) (x1 : Int32) (x2 : Int32) (st : AS) : Option Int32 := jn (some ((-1) : Int32)) fun j2 => if (f_R_isSheet κ a0 x1 st) = 0 then j2 else if (wi ((x2 : Int32).toInt64) (0 : Int64) (60 : Int64)) = 0 then j2 else bnd (f_R_cameIn κ a0 x1 x2 x2 (0 : Int32) st) (fun v1 => some v1)
theorem t_R_adds {κ : Ko} {F : Int32 → AS → Prop} {a0 : Nat} {x1 : Int32} {x2 : Int32} {st : AS} {v : Int32} (l_a0 : ly κ a0 = (12, 36)) (h : f_R_adds κ a0 x1 x2 st = some v) (k : F v st) : C κ M_R_adds [.ref a0, .int x1, .int x2] st (RI F) := by
  unfold f_R_adds at h
  refine e_R_adds ?_
  refine b_R_adds_0 (l_a0 := l_a0) (k1 := t_R_isSheet l_a0 rfl ?_)
  obtain ⟨j2, hdj2, h⟩ := jn_some h
  have hj2 : j2 = some v → V κ M_R_adds (RI F) 31 [none, none, none] [] st := by
    intro h
    rw [hdj2] at h
    exact b_R_adds_31  (k1 := lfIP h k)
  clear hdj2
  refine b_R_adds_5  (k1 := fun e3 => ?_) (k2 := fun e3 => ?_)
  · replace h := if_t e3 h
    exact hj2  h
  · replace h := if_f e3 h
    refine b_R_adds_8  (k1 := t_R_in  rfl ?_)
    refine b_R_adds_17  (k1 := fun e4 => ?_) (k2 := fun e4 => ?_)
    · replace h := if_t e4 h
      exact hj2  h
    · replace h := if_f e4 h
      obtain ⟨v1, h5, h⟩ := bnd_some h
      refine b_R_adds_20 (l_a0 := l_a0) (k1 := t_R_cameIn l_a0 h5 ?_)
      exact b_R_adds_28  (k1 := lfIP h k)
noncomputable def f_R_expected (κ : Ko) (a0 : Nat) (x1 : Int32) (x2 : Int32) (x3 : Int32) (st : AS) : Option (Int32 × AS) := jn (some (((-1) : Int32), st)) fun j3 => if (f_R_isSheet κ a0 x1 st) = 0 then j3 else if (wi ((x2 : Int32).toInt64) (1 : Int64) (99 : Int64)) = 0 then j3 else if (wi ((x3 : Int32).toInt64) (0 : Int64) (1 : Int64)) = 0 then j3 else bnd2 (f_R_expects κ a0 x1 x2 x3 st) (fun v1 s2 => some (v1, s2))
theorem t_R_expected {κ : Ko} {F : Int32 → AS → Prop} {a0 : Nat} {x1 : Int32} {x2 : Int32} {x3 : Int32} {st : AS} {v : Int32} {s' : AS} (l_a0 : ly κ a0 = (12, 36)) (h : f_R_expected κ a0 x1 x2 x3 st = some (v, s')) (k : F v s') : C κ M_R_expected [.ref a0, .int x1, .int x2, .int x3] st (RI F) := by
  unfold f_R_expected at h
  refine e_R_expected ?_
  refine b_R_expected_0 (l_a0 := l_a0) (k1 := t_R_isSheet l_a0 rfl ?_)
  obtain ⟨j3, hdj3, h⟩ := jn_some h
  have hj3 : j3 = some (v, s') → V κ M_R_expected (RI F) 40 [none, none, none, none] [] st := by
    intro h
    rw [hdj3] at h
    exact b_R_expected_40  (k1 := lfI h k)
  clear hdj3
  refine b_R_expected_5  (k1 := fun e4 => ?_) (k2 := fun e4 => ?_)
  · replace h := if_t e4 h
    exact hj3  h
  · replace h := if_f e4 h
    refine b_R_expected_8  (k1 := t_R_in  rfl ?_)
    refine b_R_expected_17  (k1 := fun e5 => ?_) (k2 := fun e5 => ?_)
    · replace h := if_t e5 h
      exact hj3  h
    · replace h := if_f e5 h
      refine b_R_expected_20  (k1 := t_R_in  rfl ?_)
      refine b_R_expected_27  (k1 := fun e6 => ?_) (k2 := fun e6 => ?_)
      · replace h := if_t e6 h
        exact hj3  h
      · replace h := if_f e6 h
        obtain ⟨v1, s2, h7, h⟩ := bnd2_some h
        refine b_R_expected_30 (l_a0 := l_a0) (k1 := t_R_expects l_a0 h7 ?_)
        exact b_R_expected_37  (k1 := lfI h k)
noncomputable def f_R_foretold (κ : Ko) (a0 : Nat) (x1 : Int32) (x2 : Int32) (st : AS) : Option Int32 := jn (some ((-1) : Int32)) fun j3 => if (f_R_isSheet κ a0 x1 st) = 0 then j3 else bnd (f_R_sheetOf κ a0 x1 (5 : Int32) st) (fun v1 => if (wi ((x2 : Int32).toInt64) (1 : Int64) ((v1 : Int32).toInt64)) = 0 then j3 else grd (vp_in ((((3680 : Int32) * x1) + 3610) + x2) 25760) (some (gi st (a0 + 14) ((((3680 : Int32) * x1) + 3610) + x2 : Int32).toNatClampNeg)))
theorem t_R_foretold {κ : Ko} {F : Int32 → AS → Prop} {a0 : Nat} {x1 : Int32} {x2 : Int32} {st : AS} {v : Int32} (l_a0 : ly κ a0 = (12, 36)) (h : f_R_foretold κ a0 x1 x2 st = some v) (k : F v st) : C κ M_R_foretold [.ref a0, .int x1, .int x2] st (RI F) := by
  unfold f_R_foretold at h
  refine e_R_foretold ?_
  refine b_R_foretold_0 (l_a0 := l_a0) (k1 := t_R_isSheet l_a0 rfl ?_)
  obtain ⟨j3, hdj3, h⟩ := jn_some h
  have hj3 : j3 = some v → V κ M_R_foretold (RI F) 43 [none, none, none] [] st := by
    intro h
    rw [hdj3] at h
    exact b_R_foretold_43  (k1 := lfIP h k)
  clear hdj3
  refine b_R_foretold_5  (k1 := fun e4 => ?_) (k2 := fun e4 => ?_)
  · replace h := if_t e4 h
    exact hj3  h
  · replace h := if_f e4 h
    obtain ⟨v1, h5, h⟩ := bnd_some h
    refine b_R_foretold_8 (l_a0 := l_a0) (k1 := t_R_sheetOf l_a0 h5 ?_)
    refine b_R_foretold_17  (k1 := t_R_in  rfl ?_)
    refine b_R_foretold_21  (k1 := fun e6 => ?_) (k2 := fun e6 => ?_)
    · replace h := if_t e6 h
      exact hj3  h
    · replace h := if_f e6 h
      obtain ⟨h2, h⟩ := grd_some h
      exact b_R_foretold_24 (l_a0 := l_a0) (b1 := h2) (k2 := lfIP h k)
noncomputable def L_R_miss_36 (κ : Ko) (st : AS) : Nat → Nat → Int32 → Int32 → Int32 → Int32 → Option Int32
  | 0, _, _, _, _, _ => none
  | d + 1, a0, x1, x3, x4, x5 => if x3 < x5 then some x4 else bnd (f_R_cameIn κ a0 x1 x5 x5 (1 : Int32) st) (fun v2 => grd (vp_in ((((3680 : Int32) * x1) + 3610) + x5) 25760) (L_R_miss_36 κ st  d a0 x1 x3 (x4 + (iabs (((1000 : Int32) * v2) - (gi st (a0 + 14) ((((3680 : Int32) * x1) + 3610) + x5 : Int32).toNatClampNeg)))) (x5 + 1)))
noncomputable def f_R_miss (κ : Ko) (a0 : Nat) (x1 : Int32) (x2 : Int32) (x3 : Int32) (st : AS) : Option Int32 := jn (some ((-1) : Int32)) fun j6 => if (f_R_isSheet κ a0 x1 st) = 0 then j6 else if x2 < 1 then j6 else if x3 < x2 then j6 else bnd (f_R_sheetOf κ a0 x1 (5 : Int32) st) (fun v1 => if x3 ≤ v1 then L_R_miss_36 κ st  FU a0 x1 x3 (0 : Int32) x2 else j6)
theorem l_R_miss_36 {κ : Ko} {F : Int32 → AS → Prop} {v : Int32} {st : AS} (k : F v st) : ∀ (d : Nat) (a0 : Nat) (x1 : Int32) (x3 : Int32) (x4 : Int32) (x5 : Int32), ly κ a0 = (12, 36) → L_R_miss_36 κ st  d a0 x1 x3 x4 x5 = some v → V κ M_R_miss (RI F) 36 [some (.ref a0), some (.int x1), none, some (.int x3), some (.int x4), some (.int x5)] [] st := by
  intro d
  induction d with
  | zero =>
    intro a0 x1 x3 x4 x5 l_a0 h
    exact nn_some h
  | succ d ih =>
    intro a0 x1 x3 x4 x5 l_a0 h
    rw [L_R_miss_36] at h
    refine b_R_miss_36  (k1 := fun e4 => ?_) (k2 := fun e4 => ?_)
    · replace h := if_t e4 h
      exact b_R_miss_88  (k1 := lfIP h k)
    · replace h := if_f e4 h
      obtain ⟨v2, h5, h⟩ := bnd_some h
      refine b_R_miss_42 (l_a0 := l_a0) (k1 := t_R_cameIn l_a0 h5 ?_)
      obtain ⟨h3, h⟩ := grd_some h
      refine b_R_miss_57 (l_a0 := l_a0) (b1 := h3) (k2 := t_R_size  rfl ?_)
      refine b_R_miss_79  (k1 := ?_)
      exact ih _ _ _ _ _ l_a0 h
theorem t_R_miss {κ : Ko} {F : Int32 → AS → Prop} {a0 : Nat} {x1 : Int32} {x2 : Int32} {x3 : Int32} {st : AS} {v : Int32} (l_a0 : ly κ a0 = (12, 36)) (h : f_R_miss κ a0 x1 x2 x3 st = some v) (k : F v st) : C κ M_R_miss [.ref a0, .int x1, .int x2, .int x3] st (RI F) := by
  unfold f_R_miss at h
  refine e_R_miss ?_
  refine b_R_miss_0 (l_a0 := l_a0) (k1 := t_R_isSheet l_a0 rfl ?_)
  obtain ⟨j6, hdj6, h⟩ := jn_some h
  have hj6 : j6 = some v → V κ M_R_miss (RI F) 28 [none, none, none, none, none, none] [] st := by
    intro h
    rw [hdj6] at h
    exact b_R_miss_28  (k1 := lfIP h k)
  clear hdj6
  refine b_R_miss_5  (k1 := fun e7 => ?_) (k2 := fun e7 => ?_)
  · replace h := if_t e7 h
    exact hj6  h
  · replace h := if_f e7 h
    refine b_R_miss_8  (k1 := fun e8 => ?_) (k2 := fun e8 => ?_)
    · replace h := if_t e8 h
      exact hj6  h
    · replace h := if_f e8 h
      refine b_R_miss_13  (k1 := fun e9 => ?_) (k2 := fun e9 => ?_)
      · replace h := if_t e9 h
        exact hj6  h
      · replace h := if_f e9 h
        obtain ⟨v1, h10, h⟩ := bnd_some h
        refine b_R_miss_18 (l_a0 := l_a0) (k1 := t_R_sheetOf l_a0 h10 ?_)
        refine b_R_miss_25  (k1 := fun e11 => ?_) (k2 := fun e11 => ?_)
        · replace h := if_t e11 h
          refine b_R_miss_30  (k1 := ?_)
          refine l_R_miss_36 k FU _ _ _ _ _ l_a0 h
        · replace h := if_f e11 h
          exact hj6  h
noncomputable def L_R_guess_47 (κ : Ko) (st : AS) (k_99 : Nat → Int32 → Int32 → Option Int32) : Nat → Nat → Int32 → Int32 → Int32 → Int32 → Option Int32
  | 0, _, _, _, _, _ => none
  | d + 1, a0, x2, x3, x4, x5 => bnd (f_R_sheetOf κ a0 x2 (5 : Int32) st) (fun v3 => if v3 ≤ x5 then k_99 a0 x2 x4 else bnd (f_R_cameIn κ a0 x2 (0 : Int32) x5 (0 : Int32) st) (fun v4 => bnd (f_R_cameIn κ a0 x2 (0 : Int32) x4 (0 : Int32) st) (fun v5 => L_R_guess_47 κ st k_99 d a0 x2 x3 (if (iabs (v5 - x3)) ≤ (iabs (v4 - x3)) then x4 else x5 : Int32) (x5 + 1))))
noncomputable def f_R_guess (κ : Ko) (a0 : Nat) (x1 : Int32) (x2 : Int32) (st : AS) : Option Int32 := jn (some ((-1) : Int32)) fun j18 => if (f_R_isSheet κ a0 x1 st) = 0 then j18 else if (f_R_isSheet κ a0 x2 st) = 0 then j18 else if x1 = x2 then j18 else bnd (f_R_sheetOf κ a0 x2 (5 : Int32) st) (fun v1 => if v1 = 0 then some ((-2) : Int32) else bnd (f_R_together κ a0 x1 st) (fun v2 => L_R_guess_47 κ st (fun (v13 : Nat) (v15 : Int32) (v16 : Int32) => bnd (f_R_cameIn κ v13 v15 (v16 + 1) (v16 + 1) (0 : Int32) st) (fun v17 => some v17)) FU a0 x2 v2 (0 : Int32) (1 : Int32)))
theorem l_R_guess_47 {κ : Ko} {F : Int32 → AS → Prop} {v : Int32} {st : AS} (k : F v st) {k_99 : Nat → Int32 → Int32 → Option Int32} (hk_99 : ∀ (a0 : Nat) (x2 : Int32) (x4 : Int32), ly κ a0 = (12, 36) → k_99 a0 x2 x4 = some v → V κ M_R_guess (RI F) 99 [some (.ref a0), none, some (.int x2), none, some (.int x4), none] [] st) : ∀ (d : Nat) (a0 : Nat) (x2 : Int32) (x3 : Int32) (x4 : Int32) (x5 : Int32), ly κ a0 = (12, 36) → L_R_guess_47 κ st k_99 d a0 x2 x3 x4 x5 = some v → V κ M_R_guess (RI F) 47 [some (.ref a0), none, some (.int x2), some (.int x3), some (.int x4), some (.int x5)] [] st := by
  intro d
  induction d with
  | zero =>
    intro a0 x2 x3 x4 x5 l_a0 h
    exact nn_some h
  | succ d ih =>
    intro a0 x2 x3 x4 x5 l_a0 h
    rw [L_R_guess_47] at h
    obtain ⟨v3, h6, h⟩ := bnd_some h
    refine b_R_guess_47 (l_a0 := l_a0) (k1 := t_R_sheetOf l_a0 h6 ?_)
    refine b_R_guess_55  (k1 := fun e7 => ?_) (k2 := fun e7 => ?_)
    · replace h := if_t e7 h
      exact hk_99 _ _ _ l_a0 h
    · replace h := if_f e7 h
      obtain ⟨v4, h8, h⟩ := bnd_some h
      refine b_R_guess_58 (l_a0 := l_a0) (k1 := t_R_cameIn l_a0 h8 ?_)
      refine b_R_guess_67  (k1 := t_R_size  rfl ?_)
      obtain ⟨v5, h9, h⟩ := bnd_some h
      refine b_R_guess_72 (l_a0 := l_a0) (k1 := t_R_cameIn l_a0 h9 ?_)
      refine b_R_guess_81  (k1 := t_R_size  rfl ?_)
      have K11 : V κ M_R_guess (RI F) 47 [some (.ref a0), none, some (.int x2), some (.int x3), some (.int (if (iabs (v5 - x3)) ≤ (iabs (v4 - x3)) then x4 else x5 : Int32)), some (.int (x5 + 1))] [] st := by
        exact ih _ _ _ _ _ l_a0 h
      refine b_R_guess_86  (k1 := fun e12 => ?_) (k2 := fun e12 => ?_)
      · refine b_R_guess_93  (k1 := ?_)
        exact (ite_t (P := fun z => V κ M_R_guess (RI F) 47 [some (.ref a0), none, some (.int x2), some (.int x3), some (.int z), some (.int (x5 + 1))] [] st) e12 K11)
      · refine b_R_guess_89  (k1 := ?_)
        exact (ite_f (P := fun z => V κ M_R_guess (RI F) 47 [some (.ref a0), none, some (.int x2), some (.int x3), some (.int z), some (.int (x5 + 1))] [] st) e12 K11)
theorem t_R_guess {κ : Ko} {F : Int32 → AS → Prop} {a0 : Nat} {x1 : Int32} {x2 : Int32} {st : AS} {v : Int32} (l_a0 : ly κ a0 = (12, 36)) (h : f_R_guess κ a0 x1 x2 st = some v) (k : F v st) : C κ M_R_guess [.ref a0, .int x1, .int x2] st (RI F) := by
  unfold f_R_guess at h
  refine e_R_guess ?_
  refine b_R_guess_0 (l_a0 := l_a0) (k1 := t_R_isSheet l_a0 rfl ?_)
  obtain ⟨j18, hdj18, h⟩ := jn_some h
  have hj18 : j18 = some v → V κ M_R_guess (RI F) 21 [none, none, none, none, none, none] [] st := by
    intro h
    rw [hdj18] at h
    exact b_R_guess_21  (k1 := lfIP h k)
  clear hdj18
  refine b_R_guess_5  (k1 := fun e19 => ?_) (k2 := fun e19 => ?_)
  · replace h := if_t e19 h
    exact hj18  h
  · replace h := if_f e19 h
    refine b_R_guess_8 (l_a0 := l_a0) (k1 := t_R_isSheet l_a0 rfl ?_)
    refine b_R_guess_13  (k1 := fun e20 => ?_) (k2 := fun e20 => ?_)
    · replace h := if_t e20 h
      exact hj18  h
    · replace h := if_f e20 h
      refine b_R_guess_16  (k1 := fun e21 => ?_) (k2 := fun e21 => ?_)
      · replace h := if_f e21 h
        obtain ⟨v1, h22, h⟩ := bnd_some h
        refine b_R_guess_23 (l_a0 := l_a0) (k1 := t_R_sheetOf l_a0 h22 ?_)
        refine b_R_guess_29  (k1 := fun e23 => ?_) (k2 := fun e23 => ?_)
        · replace h := if_f e23 h
          obtain ⟨v2, h24, h⟩ := bnd_some h
          refine b_R_guess_35 (l_a0 := l_a0) (k1 := t_R_together l_a0 h24 ?_)
          refine b_R_guess_40  (k1 := ?_)
          refine l_R_guess_47 k ?_ FU _ _ _ _ _ l_a0 h
          · intro v13 v15 v16 l14 h
            obtain ⟨v17, h25, h⟩ := bnd_some h
            refine b_R_guess_99 (l_a0 := l14) (k1 := t_R_cameIn l14 h25 ?_)
            exact b_R_guess_113  (k1 := lfIP h k)
        · replace h := if_t e23 h
          exact b_R_guess_32  (k1 := lfIP h k)
      · replace h := if_t e21 h
        exact hj18  h
noncomputable def L_R_curve_40 (κ : Ko) (st : AS) (k_70 : Nat → Int32 → Int32 → Int32 → Int32 → Option Int32) : Nat → Nat → Int32 → Int32 → Int32 → Int32 → Int32 → Option Int32
  | 0, _, _, _, _, _, _ => none
  | d + 1, a0, x1, x2, x3, x4, x5 => if x3 < x5 then k_70 a0 x1 x2 x3 x4 else bnd (f_R_cameIn κ a0 x1 x5 x5 (0 : Int32) st) (fun v2 => L_R_curve_40 κ st k_70 d a0 x1 x2 x3 (x4 + (x5 * v2)) (x5 + 1))
noncomputable def L_R_curve_82 (κ : Ko) (st : AS) (k_118 : Int32 → Int32 → Int32 → Option Int32) : Nat → Nat → Int32 → Int32 → Int32 → Int32 → Int32 → Int32 → Option Int32
  | 0, _, _, _, _, _, _, _ => none
  | d + 1, a0, x1, x2, x3, x5, x6, x7 => if x3 < x7 then k_118 x2 x5 x6 else bnd (f_R_cameIn κ a0 x1 x7 x7 (0 : Int32) st) (fun v12 => grd (¬ x7 = 0) (L_R_curve_82 κ st k_118 d a0 x1 x2 x3 x5 (x6 + (iabs (v12 - (x5 / x7)))) (x7 + 1)))
noncomputable def f_R_curve (κ : Ko) (a0 : Nat) (x1 : Int32) (x2 : Int32) (st : AS) : Option Int32 := jn (some ((-1) : Int32)) fun j19 => if (f_R_isSheet κ a0 x1 st) = 0 then j19 else if (wi ((x2 : Int32).toInt64) (0 : Int64) (1 : Int64)) = 0 then j19 else bnd (f_R_sheetOf κ a0 x1 (5 : Int32) st) (fun v1 => if v1 = 0 then some ((-2) : Int32) else L_R_curve_40 κ st (fun (v5 : Nat) (v7 : Int32) (v8 : Int32) (v9 : Int32) (v10 : Int32) => grd (¬ v9 = 0) (L_R_curve_82 κ st (fun (v16 : Int32) (v17 : Int32) (v18 : Int32) => some (if v16 = 0 then v17 else v18 : Int32)) FU v5 v7 v8 v9 (v10 / v9) (0 : Int32) (1 : Int32))) FU a0 x1 x2 v1 (0 : Int32) (1 : Int32))
theorem l_R_curve_40 {κ : Ko} {F : Int32 → AS → Prop} {v : Int32} {st : AS} (k : F v st) {k_70 : Nat → Int32 → Int32 → Int32 → Int32 → Option Int32} (hk_70 : ∀ (a0 : Nat) (x1 : Int32) (x2 : Int32) (x3 : Int32) (x4 : Int32), ly κ a0 = (12, 36) → k_70 a0 x1 x2 x3 x4 = some v → V κ M_R_curve (RI F) 70 [some (.ref a0), some (.int x1), some (.int x2), some (.int x3), some (.int x4), none, none, none] [] st) : ∀ (d : Nat) (a0 : Nat) (x1 : Int32) (x2 : Int32) (x3 : Int32) (x4 : Int32) (x5 : Int32), ly κ a0 = (12, 36) → L_R_curve_40 κ st k_70 d a0 x1 x2 x3 x4 x5 = some v → V κ M_R_curve (RI F) 40 [some (.ref a0), some (.int x1), some (.int x2), some (.int x3), some (.int x4), some (.int x5), none, none] [] st := by
  intro d
  induction d with
  | zero =>
    intro a0 x1 x2 x3 x4 x5 l_a0 h
    exact nn_some h
  | succ d ih =>
    intro a0 x1 x2 x3 x4 x5 l_a0 h
    rw [L_R_curve_40] at h
    refine b_R_curve_40  (k1 := fun e3 => ?_) (k2 := fun e3 => ?_)
    · replace h := if_t e3 h
      exact hk_70 _ _ _ _ _ l_a0 h
    · replace h := if_f e3 h
      obtain ⟨v2, h4, h⟩ := bnd_some h
      refine b_R_curve_46 (l_a0 := l_a0) (k1 := t_R_cameIn l_a0 h4 ?_)
      refine b_R_curve_60  (k1 := ?_)
      exact ih _ _ _ _ _ _ l_a0 h
theorem l_R_curve_82 {κ : Ko} {F : Int32 → AS → Prop} {v : Int32} {st : AS} (k : F v st) {k_118 : Int32 → Int32 → Int32 → Option Int32} (hk_118 : ∀ (x2 : Int32) (x5 : Int32) (x6 : Int32), k_118 x2 x5 x6 = some v → V κ M_R_curve (RI F) 118 [none, none, some (.int x2), none, none, some (.int x5), some (.int x6), none] [] st) : ∀ (d : Nat) (a0 : Nat) (x1 : Int32) (x2 : Int32) (x3 : Int32) (x5 : Int32) (x6 : Int32) (x7 : Int32), ly κ a0 = (12, 36) → L_R_curve_82 κ st k_118 d a0 x1 x2 x3 x5 x6 x7 = some v → V κ M_R_curve (RI F) 82 [some (.ref a0), some (.int x1), some (.int x2), some (.int x3), none, some (.int x5), some (.int x6), some (.int x7)] [] st := by
  intro d
  induction d with
  | zero =>
    intro a0 x1 x2 x3 x5 x6 x7 l_a0 h
    exact nn_some h
  | succ d ih =>
    intro a0 x1 x2 x3 x5 x6 x7 l_a0 h
    rw [L_R_curve_82] at h
    refine b_R_curve_82  (k1 := fun e14 => ?_) (k2 := fun e14 => ?_)
    · replace h := if_t e14 h
      exact hk_118 _ _ _  h
    · replace h := if_f e14 h
      obtain ⟨v12, h15, h⟩ := bnd_some h
      refine b_R_curve_88 (l_a0 := l_a0) (k1 := t_R_cameIn l_a0 h15 ?_)
      obtain ⟨h13, h⟩ := grd_some h
      refine b_R_curve_100 (z1 := h13) (k2 := t_R_size  rfl ?_)
      refine b_R_curve_109  (k1 := ?_)
      exact ih _ _ _ _ _ _ _ l_a0 h
theorem t_R_curve {κ : Ko} {F : Int32 → AS → Prop} {a0 : Nat} {x1 : Int32} {x2 : Int32} {st : AS} {v : Int32} (l_a0 : ly κ a0 = (12, 36)) (h : f_R_curve κ a0 x1 x2 st = some v) (k : F v st) : C κ M_R_curve [.ref a0, .int x1, .int x2] st (RI F) := by
  unfold f_R_curve at h
  refine e_R_curve ?_
  refine b_R_curve_0 (l_a0 := l_a0) (k1 := t_R_isSheet l_a0 rfl ?_)
  obtain ⟨j19, hdj19, h⟩ := jn_some h
  have hj19 : j19 = some v → V κ M_R_curve (RI F) 18 [none, none, none, none, none, none, none, none] [] st := by
    intro h
    rw [hdj19] at h
    exact b_R_curve_18  (k1 := lfIP h k)
  clear hdj19
  refine b_R_curve_5  (k1 := fun e20 => ?_) (k2 := fun e20 => ?_)
  · replace h := if_t e20 h
    exact hj19  h
  · replace h := if_f e20 h
    refine b_R_curve_8  (k1 := t_R_in  rfl ?_)
    refine b_R_curve_15  (k1 := fun e21 => ?_) (k2 := fun e21 => ?_)
    · replace h := if_f e21 h
      obtain ⟨v1, h22, h⟩ := bnd_some h
      refine b_R_curve_20 (l_a0 := l_a0) (k1 := t_R_sheetOf l_a0 h22 ?_)
      refine b_R_curve_26  (k1 := fun e23 => ?_) (k2 := fun e23 => ?_)
      · replace h := if_f e23 h
        refine b_R_curve_34  (k1 := ?_)
        refine l_R_curve_40 k ?_ FU _ _ _ _ _ _ l_a0 h
        · intro v5 v7 v8 v9 v10 l6 h
          obtain ⟨h11, h⟩ := grd_some h
          refine b_R_curve_70 (z1 := h11) (k2 := ?_)
          refine l_R_curve_82 k ?_ FU _ _ _ _ _ _ _ l6 h
          · intro v16 v17 v18 h
            have K25 : (RI F) (some (.int (if v16 = 0 then v17 else v18 : Int32))) st := lfIP h k
            refine b_R_curve_118  (k1 := fun e26 => ?_) (k2 := fun e26 => ?_)
            · exact b_R_curve_127  (k1 := (ite_f (P := fun z => (RI F) (some (.int z)) st) e26 K25))
            · exact b_R_curve_122  (k1 := (ite_t (P := fun z => (RI F) (some (.int z)) st) e26 K25))
      · replace h := if_t e23 h
        exact b_R_curve_31  (k1 := lfIP h k)
    · replace h := if_t e21 h
      exact hj19  h
noncomputable def f_R_areaOf (κ : Ko) (a0 : Nat) (x1 : Int32) (x2 : Int32) (st : AS) : Option Int32 := bnd (f_R_facetOf κ a0 x1 x2 (2 : Int32) st) (fun v1 => bnd (f_R_facetOf κ a0 x1 x2 (3 : Int32) st) (fun v2 => some (v1 * v2)))
theorem t_R_areaOf {κ : Ko} {F : Int32 → AS → Prop} {a0 : Nat} {x1 : Int32} {x2 : Int32} {st : AS} {v : Int32} (l_a0 : ly κ a0 = (12, 36)) (h : f_R_areaOf κ a0 x1 x2 st = some v) (k : F v st) : C κ M_R_areaOf [.ref a0, .int x1, .int x2] st (RI F) := by
  unfold f_R_areaOf at h
  refine e_R_areaOf ?_
  obtain ⟨v1, h3, h⟩ := bnd_some h
  refine b_R_areaOf_0 (l_a0 := l_a0) (k1 := t_R_facetOf l_a0 h3 ?_)
  obtain ⟨v2, h4, h⟩ := bnd_some h
  refine b_R_areaOf_7 (l_a0 := l_a0) (k1 := t_R_facetOf l_a0 h4 ?_)
  exact b_R_areaOf_14  (k1 := lfIP h k)
noncomputable def L_R_sizes_71 (κ : Ko) (st : AS) (k_134 : Nat → Int32 → Int32 → Int32 → Int32 → Int32 → Option Int32) : Nat → Nat → Int32 → Int32 → Int32 → Int32 → Int32 → Int32 → Option Int32
  | 0, _, _, _, _, _, _, _ => none
  | d + 1, a0, x1, x3, x4, x5, x6, x7 => if x3 ≤ x7 then k_134 a0 x1 x3 x4 x5 x6 else bnd (f_R_areaOf κ a0 x1 x7 st) (fun v2 => bnd (f_R_areaOf κ a0 x1 x5 st) (fun v3 => jn (L_R_sizes_71 κ st k_134 d a0 x1 x3 x4 x5 (x6 + 1) (x7 + 1)) fun j7 => if v2 < v3 then j7 else bnd (f_R_areaOf κ a0 x1 x7 st) (fun v4 => bnd (f_R_areaOf κ a0 x1 x5 st) (fun v5 => jn (L_R_sizes_71 κ st k_134 d a0 x1 x3 x4 x5 (x6 + 0) (x7 + 1)) fun j6 => if v4 = v5 then if x5 ≤ x7 then j6 else j7 else j6))))
noncomputable def L_R_sizes_59 (κ : Ko) (st : AS) (k_141 : Nat → Int32 → Int32 → Option Int32) : Nat → Nat → Int32 → Int32 → Int32 → Int32 → Option Int32
  | 0, _, _, _, _, _ => none
  | d + 1, a0, x1, x3, x4, x5 => if x3 ≤ x5 then some ((-1) : Int32) else L_R_sizes_71 κ st (fun (v16 : Nat) (v18 : Int32) (v19 : Int32) (v20 : Int32) (v21 : Int32) (v22 : Int32) => if v22 = v20 then k_141 v16 v18 v21 else L_R_sizes_59 κ st k_141 d v16 v18 v19 v20 (v21 + 1)) FU a0 x1 x3 x4 x5 (0 : Int32) (0 : Int32)
noncomputable def f_R_sizes (κ : Ko) (a0 : Nat) (x1 : Int32) (x2 : Int32) (st : AS) : Option Int32 := jn (some ((-1) : Int32)) fun j30 => if (f_R_isSheet κ a0 x1 st) = 0 then j30 else if (wi ((x2 : Int32).toInt64) (0 : Int64) (2 : Int64)) = 0 then j30 else bnd (f_R_sheetOf κ a0 x1 (6 : Int32) st) (fun v1 => L_R_sizes_59 κ st (fun (v25 : Nat) (v27 : Int32) (v28 : Int32) => bnd (f_R_areaOf κ v25 v27 v28 st) (fun v29 => some v29)) FU a0 x1 v1 (if x2 = 0 then (0 : Int32) else (if x2 = 1 then v1 - 1 else (v1 - 1) / 2 : Int32) : Int32) (0 : Int32))
theorem l_R_sizes_71 {κ : Ko} {F : Int32 → AS → Prop} {v : Int32} {st : AS} (k : F v st) {k_134 : Nat → Int32 → Int32 → Int32 → Int32 → Int32 → Option Int32} (hk_134 : ∀ (a0 : Nat) (x1 : Int32) (x3 : Int32) (x4 : Int32) (x5 : Int32) (x6 : Int32), ly κ a0 = (12, 36) → k_134 a0 x1 x3 x4 x5 x6 = some v → V κ M_R_sizes (RI F) 134 [some (.ref a0), some (.int x1), none, some (.int x3), some (.int x4), some (.int x5), some (.int x6), none] [] st) : ∀ (d : Nat) (a0 : Nat) (x1 : Int32) (x3 : Int32) (x4 : Int32) (x5 : Int32) (x6 : Int32) (x7 : Int32), ly κ a0 = (12, 36) → L_R_sizes_71 κ st k_134 d a0 x1 x3 x4 x5 x6 x7 = some v → V κ M_R_sizes (RI F) 71 [some (.ref a0), some (.int x1), none, some (.int x3), some (.int x4), some (.int x5), some (.int x6), some (.int x7)] [] st := by
  intro d
  induction d with
  | zero =>
    intro a0 x1 x3 x4 x5 x6 x7 l_a0 h
    exact nn_some h
  | succ d ih =>
    intro a0 x1 x3 x4 x5 x6 x7 l_a0 h
    rw [L_R_sizes_71] at h
    refine b_R_sizes_71  (k1 := fun e8 => ?_) (k2 := fun e8 => ?_)
    · replace h := if_t e8 h
      exact hk_134 _ _ _ _ _ _ l_a0 h
    · replace h := if_f e8 h
      obtain ⟨v2, h9, h⟩ := bnd_some h
      refine b_R_sizes_77 (l_a0 := l_a0) (k1 := t_R_areaOf l_a0 h9 ?_)
      obtain ⟨v3, h10, h⟩ := bnd_some h
      refine b_R_sizes_86 (l_a0 := l_a0) (k1 := t_R_areaOf l_a0 h10 ?_)
      obtain ⟨j7, hdj7, h⟩ := jn_some h
      have hj7 : j7 = some v → V κ M_R_sizes (RI F) 120 [some (.ref a0), some (.int x1), none, some (.int x3), some (.int x4), some (.int x5), none, some (.int x7)] [.int x6] st := by
        intro h
        rw [hdj7] at h
        refine b_R_sizes_120  (k1 := ?_)
        exact ih _ _ _ _ _ _ _ l_a0 h
      clear hdj7
      refine b_R_sizes_93  (k1 := fun e11 => ?_) (k2 := fun e11 => ?_)
      · replace h := if_t e11 h
        exact hj7  h
      · replace h := if_f e11 h
        obtain ⟨v4, h12, h⟩ := bnd_some h
        refine b_R_sizes_96 (l_a0 := l_a0) (k1 := t_R_areaOf l_a0 h12 ?_)
        obtain ⟨v5, h13, h⟩ := bnd_some h
        refine b_R_sizes_103 (l_a0 := l_a0) (k1 := t_R_areaOf l_a0 h13 ?_)
        obtain ⟨j6, hdj6, h⟩ := jn_some h
        have hj6 : j6 = some v → V κ M_R_sizes (RI F) 124 [some (.ref a0), some (.int x1), none, some (.int x3), some (.int x4), some (.int x5), none, some (.int x7)] [.int x6] st := by
          intro h
          rw [hdj6] at h
          refine b_R_sizes_124  (k1 := ?_)
          exact ih _ _ _ _ _ _ _ l_a0 h
        clear hdj6
        refine b_R_sizes_110  (k1 := fun e14 => ?_) (k2 := fun e14 => ?_)
        · replace h := if_f e14 h
          exact hj6  h
        · replace h := if_t e14 h
          refine b_R_sizes_113  (k1 := fun e15 => ?_) (k2 := fun e15 => ?_)
          · replace h := if_t e15 h
            exact hj6  h
          · replace h := if_f e15 h
            exact hj7  h
theorem l_R_sizes_59 {κ : Ko} {F : Int32 → AS → Prop} {v : Int32} {st : AS} (k : F v st) {k_141 : Nat → Int32 → Int32 → Option Int32} (hk_141 : ∀ (a0 : Nat) (x1 : Int32) (x5 : Int32), ly κ a0 = (12, 36) → k_141 a0 x1 x5 = some v → V κ M_R_sizes (RI F) 141 [some (.ref a0), some (.int x1), none, none, none, some (.int x5), none, none] [] st) : ∀ (d : Nat) (a0 : Nat) (x1 : Int32) (x3 : Int32) (x4 : Int32) (x5 : Int32), ly κ a0 = (12, 36) → L_R_sizes_59 κ st k_141 d a0 x1 x3 x4 x5 = some v → V κ M_R_sizes (RI F) 59 [some (.ref a0), some (.int x1), none, some (.int x3), some (.int x4), some (.int x5), none, none] [] st := by
  intro d
  induction d with
  | zero =>
    intro a0 x1 x3 x4 x5 l_a0 h
    exact nn_some h
  | succ d ih =>
    intro a0 x1 x3 x4 x5 l_a0 h
    rw [L_R_sizes_59] at h
    refine b_R_sizes_59  (k1 := fun e23 => ?_) (k2 := fun e23 => ?_)
    · replace h := if_t e23 h
      exact b_R_sizes_155  (k1 := lfIP h k)
    · replace h := if_f e23 h
      refine b_R_sizes_65  (k1 := ?_)
      refine l_R_sizes_71 k ?_ FU _ _ _ _ _ _ _ l_a0 h
      · intro v16 v18 v19 v20 v21 v22 l17 h
        refine b_R_sizes_134  (k1 := fun e24 => ?_) (k2 := fun e24 => ?_)
        · replace h := if_f e24 h
          refine b_R_sizes_149  (k1 := ?_)
          exact ih _ _ _ _ _ l17 h
        · replace h := if_t e24 h
          exact hk_141 _ _ _ l17 h
theorem t_R_sizes {κ : Ko} {F : Int32 → AS → Prop} {a0 : Nat} {x1 : Int32} {x2 : Int32} {st : AS} {v : Int32} (l_a0 : ly κ a0 = (12, 36)) (h : f_R_sizes κ a0 x1 x2 st = some v) (k : F v st) : C κ M_R_sizes [.ref a0, .int x1, .int x2] st (RI F) := by
  unfold f_R_sizes at h
  refine e_R_sizes ?_
  refine b_R_sizes_0 (l_a0 := l_a0) (k1 := t_R_isSheet l_a0 rfl ?_)
  obtain ⟨j30, hdj30, h⟩ := jn_some h
  have hj30 : j30 = some v → V κ M_R_sizes (RI F) 20 [none, none, none, none, none, none, none, none] [] st := by
    intro h
    rw [hdj30] at h
    exact b_R_sizes_20  (k1 := lfIP h k)
  clear hdj30
  refine b_R_sizes_5  (k1 := fun e31 => ?_) (k2 := fun e31 => ?_)
  · replace h := if_t e31 h
    exact hj30  h
  · replace h := if_f e31 h
    refine b_R_sizes_8  (k1 := t_R_in  rfl ?_)
    refine b_R_sizes_17  (k1 := fun e32 => ?_) (k2 := fun e32 => ?_)
    · replace h := if_f e32 h
      obtain ⟨v1, h33, h⟩ := bnd_some h
      refine b_R_sizes_22 (l_a0 := l_a0) (k1 := t_R_sheetOf l_a0 h33 ?_)
      have K35 : V κ M_R_sizes (RI F) 59 [some (.ref a0), some (.int x1), none, some (.int v1), some (.int (if x2 = 0 then (0 : Int32) else (if x2 = 1 then v1 - 1 else (v1 - 1) / 2 : Int32) : Int32)), some (.int (0 : Int32)), none, none] [] st := by
        refine l_R_sizes_59 k ?_ FU _ _ _ _ _ l_a0 h
        · intro v25 v27 v28 l26 h
          obtain ⟨v29, h36, h⟩ := bnd_some h
          refine b_R_sizes_141 (l_a0 := l26) (k1 := t_R_areaOf l26 h36 ?_)
          exact b_R_sizes_148  (k1 := lfIP h k)
      refine b_R_sizes_29  (k1 := fun e37 => ?_) (k2 := fun e37 => ?_)
      · refine b_R_sizes_38  (k1 := fun e38 => ?_) (k2 := fun e38 => ?_)
        · refine b_R_sizes_49  (k1 := ?_)
          exact (ite_f (P := fun z => V κ M_R_sizes (RI F) 59 [some (.ref a0), some (.int x1), none, some (.int v1), some (.int z), some (.int (0 : Int32)), none, none] [] st) e38 (ite_f (P := fun z => V κ M_R_sizes (RI F) 59 [some (.ref a0), some (.int x1), none, some (.int v1), some (.int z), some (.int (0 : Int32)), none, none] [] st) e37 K35))
        · refine b_R_sizes_43  (k1 := ?_)
          exact (ite_t (P := fun z => V κ M_R_sizes (RI F) 59 [some (.ref a0), some (.int x1), none, some (.int v1), some (.int z), some (.int (0 : Int32)), none, none] [] st) e38 (ite_f (P := fun z => V κ M_R_sizes (RI F) 59 [some (.ref a0), some (.int x1), none, some (.int v1), some (.int z), some (.int (0 : Int32)), none, none] [] st) e37 K35))
      · refine b_R_sizes_34  (k1 := ?_)
        exact (ite_t (P := fun z => V κ M_R_sizes (RI F) 59 [some (.ref a0), some (.int x1), none, some (.int v1), some (.int z), some (.int (0 : Int32)), none, none] [] st) e37 K35)
    · replace h := if_t e32 h
      exact hj30  h
noncomputable def L_R_classOf_5 (κ : Ko) (st : AS) : Nat → Nat → Int32 → Int32 → Int32 → Int32 → Option Int32
  | 0, _, _, _, _, _ => none
  | d + 1, a0, x1, x2, x3, x4 => bnd (f_R_sheetOf κ a0 x1 (6 : Int32) st) (fun v1 => if v1 ≤ x4 then some x3 else bnd (f_R_areaOf κ a0 x1 x4 st) (fun v2 => L_R_classOf_5 κ st  d a0 x1 x2 (if (wi ((v2 : Int32).toInt64) ((1 <<< ((x2 : Int32) &&& 31) : Int32).toInt64) (((2 <<< ((x2 : Int32) &&& 31)) - 1 : Int32).toInt64)) = 0 then x3 + 0 else x3 + 1 : Int32) (x4 + 1)))
noncomputable def f_R_classOf (κ : Ko) (a0 : Nat) (x1 : Int32) (x2 : Int32) (st : AS) : Option Int32 := L_R_classOf_5 κ st  FU a0 x1 x2 (0 : Int32) (0 : Int32)
theorem l_R_classOf_5 {κ : Ko} {F : Int32 → AS → Prop} {v : Int32} {st : AS} (k : F v st) : ∀ (d : Nat) (a0 : Nat) (x1 : Int32) (x2 : Int32) (x3 : Int32) (x4 : Int32), ly κ a0 = (12, 36) → L_R_classOf_5 κ st  d a0 x1 x2 x3 x4 = some v → V κ M_R_classOf (RI F) 5 [some (.ref a0), some (.int x1), some (.int x2), some (.int x3), some (.int x4)] [] st := by
  intro d
  induction d with
  | zero =>
    intro a0 x1 x2 x3 x4 l_a0 h
    exact nn_some h
  | succ d ih =>
    intro a0 x1 x2 x3 x4 l_a0 h
    rw [L_R_classOf_5] at h
    obtain ⟨v1, h3, h⟩ := bnd_some h
    refine b_R_classOf_5 (l_a0 := l_a0) (k1 := t_R_sheetOf l_a0 h3 ?_)
    refine b_R_classOf_14  (k1 := fun e4 => ?_) (k2 := fun e4 => ?_)
    · replace h := if_t e4 h
      exact b_R_classOf_55  (k1 := lfIP h k)
    · replace h := if_f e4 h
      obtain ⟨v2, h5, h⟩ := bnd_some h
      refine b_R_classOf_17 (l_a0 := l_a0) (k1 := t_R_areaOf l_a0 h5 ?_)
      refine b_R_classOf_25  (k1 := t_R_in  rfl ?_)
      have K7 : V κ M_R_classOf (RI F) 5 [some (.ref a0), some (.int x1), some (.int x2), some (.int (if (wi ((v2 : Int32).toInt64) ((1 <<< ((x2 : Int32) &&& 31) : Int32).toInt64) (((2 <<< ((x2 : Int32) &&& 31)) - 1 : Int32).toInt64)) = 0 then x3 + 0 else x3 + 1 : Int32)), some (.int (x4 + 1))] [] st := by
        exact ih _ _ _ _ _ l_a0 h
      refine b_R_classOf_39  (k1 := fun e8 => ?_) (k2 := fun e8 => ?_)
      · refine b_R_classOf_46  (k1 := ?_)
        exact (ite_t (P := fun z => V κ M_R_classOf (RI F) 5 [some (.ref a0), some (.int x1), some (.int x2), some (.int z), some (.int (x4 + 1))] [] st) e8 K7)
      · refine b_R_classOf_42  (k1 := ?_)
        exact (ite_f (P := fun z => V κ M_R_classOf (RI F) 5 [some (.ref a0), some (.int x1), some (.int x2), some (.int z), some (.int (x4 + 1))] [] st) e8 K7)
theorem t_R_classOf {κ : Ko} {F : Int32 → AS → Prop} {a0 : Nat} {x1 : Int32} {x2 : Int32} {st : AS} {v : Int32} (l_a0 : ly κ a0 = (12, 36)) (h : f_R_classOf κ a0 x1 x2 st = some v) (k : F v st) : C κ M_R_classOf [.ref a0, .int x1, .int x2] st (RI F) := by
  unfold f_R_classOf at h
  refine e_R_classOf ?_
  refine b_R_classOf_0  (k1 := ?_)
  refine l_R_classOf_5 k FU _ _ _ _ _ l_a0 h
noncomputable def f_R_classes (κ : Ko) (a0 : Nat) (x1 : Int32) (x2 : Int32) (st : AS) : Option Int32 := jn (some ((-1) : Int32)) fun j2 => if (f_R_isSheet κ a0 x1 st) = 0 then j2 else if (wi ((x2 : Int32).toInt64) (0 : Int64) (15 : Int64)) = 0 then j2 else bnd (f_R_classOf κ a0 x1 x2 st) (fun v1 => some v1)
theorem t_R_classes {κ : Ko} {F : Int32 → AS → Prop} {a0 : Nat} {x1 : Int32} {x2 : Int32} {st : AS} {v : Int32} (l_a0 : ly κ a0 = (12, 36)) (h : f_R_classes κ a0 x1 x2 st = some v) (k : F v st) : C κ M_R_classes [.ref a0, .int x1, .int x2] st (RI F) := by
  unfold f_R_classes at h
  refine e_R_classes ?_
  refine b_R_classes_0 (l_a0 := l_a0) (k1 := t_R_isSheet l_a0 rfl ?_)
  obtain ⟨j2, hdj2, h⟩ := jn_some h
  have hj2 : j2 = some v → V κ M_R_classes (RI F) 29 [none, none, none] [] st := by
    intro h
    rw [hdj2] at h
    exact b_R_classes_29  (k1 := lfIP h k)
  clear hdj2
  refine b_R_classes_5  (k1 := fun e3 => ?_) (k2 := fun e3 => ?_)
  · replace h := if_t e3 h
    exact hj2  h
  · replace h := if_f e3 h
    refine b_R_classes_8  (k1 := t_R_in  rfl ?_)
    refine b_R_classes_17  (k1 := fun e4 => ?_) (k2 := fun e4 => ?_)
    · replace h := if_t e4 h
      exact hj2  h
    · replace h := if_f e4 h
      obtain ⟨v1, h5, h⟩ := bnd_some h
      refine b_R_classes_20 (l_a0 := l_a0) (k1 := t_R_classOf l_a0 h5 ?_)
      exact b_R_classes_26  (k1 := lfIP h k)
noncomputable def L_R_differ_5 (κ : Ko) (st : AS) : Nat → Nat → Int32 → Int32 → Int32 → Int32 → Option Int32
  | 0, _, _, _, _, _ => none
  | d + 1, a0, x1, x2, x3, x4 => if 16 ≤ x4 then some x3 else bnd (f_R_classOf κ a0 x1 x4 st) (fun v1 => bnd (f_R_classOf κ a0 x2 x4 st) (fun v2 => L_R_differ_5 κ st  d a0 x1 x2 (x3 + (iabs (v1 - v2))) (x4 + 1)))
noncomputable def f_R_differ (κ : Ko) (a0 : Nat) (x1 : Int32) (x2 : Int32) (st : AS) : Option Int32 := L_R_differ_5 κ st  FU a0 x1 x2 (0 : Int32) (0 : Int32)
theorem l_R_differ_5 {κ : Ko} {F : Int32 → AS → Prop} {v : Int32} {st : AS} (k : F v st) : ∀ (d : Nat) (a0 : Nat) (x1 : Int32) (x2 : Int32) (x3 : Int32) (x4 : Int32), ly κ a0 = (12, 36) → L_R_differ_5 κ st  d a0 x1 x2 x3 x4 = some v → V κ M_R_differ (RI F) 5 [some (.ref a0), some (.int x1), some (.int x2), some (.int x3), some (.int x4)] [] st := by
  intro d
  induction d with
  | zero =>
    intro a0 x1 x2 x3 x4 l_a0 h
    exact nn_some h
  | succ d ih =>
    intro a0 x1 x2 x3 x4 l_a0 h
    rw [L_R_differ_5] at h
    refine b_R_differ_5  (k1 := fun e3 => ?_) (k2 := fun e3 => ?_)
    · replace h := if_t e3 h
      exact b_R_differ_39  (k1 := lfIP h k)
    · replace h := if_f e3 h
      obtain ⟨v1, h4, h⟩ := bnd_some h
      refine b_R_differ_12 (l_a0 := l_a0) (k1 := t_R_classOf l_a0 h4 ?_)
      obtain ⟨v2, h5, h⟩ := bnd_some h
      refine b_R_differ_20 (l_a0 := l_a0) (k1 := t_R_classOf l_a0 h5 ?_)
      refine b_R_differ_27  (k1 := t_R_size  rfl ?_)
      refine b_R_differ_31  (k1 := ?_)
      exact ih _ _ _ _ _ l_a0 h
theorem t_R_differ {κ : Ko} {F : Int32 → AS → Prop} {a0 : Nat} {x1 : Int32} {x2 : Int32} {st : AS} {v : Int32} (l_a0 : ly κ a0 = (12, 36)) (h : f_R_differ κ a0 x1 x2 st = some v) (k : F v st) : C κ M_R_differ [.ref a0, .int x1, .int x2] st (RI F) := by
  unfold f_R_differ at h
  refine e_R_differ ?_
  refine b_R_differ_0  (k1 := ?_)
  refine l_R_differ_5 k FU _ _ _ _ _ l_a0 h
noncomputable def f_R_apart (κ : Ko) (a0 : Nat) (x1 : Int32) (x2 : Int32) (st : AS) : Option Int32 := jn (some ((-1) : Int32)) fun j2 => if (f_R_isSheet κ a0 x1 st) = 0 then j2 else if (f_R_isSheet κ a0 x2 st) = 0 then j2 else if x1 = x2 then j2 else bnd (f_R_differ κ a0 x1 x2 st) (fun v1 => some v1)
theorem t_R_apart {κ : Ko} {F : Int32 → AS → Prop} {a0 : Nat} {x1 : Int32} {x2 : Int32} {st : AS} {v : Int32} (l_a0 : ly κ a0 = (12, 36)) (h : f_R_apart κ a0 x1 x2 st = some v) (k : F v st) : C κ M_R_apart [.ref a0, .int x1, .int x2] st (RI F) := by
  unfold f_R_apart at h
  refine e_R_apart ?_
  refine b_R_apart_0 (l_a0 := l_a0) (k1 := t_R_isSheet l_a0 rfl ?_)
  obtain ⟨j2, hdj2, h⟩ := jn_some h
  have hj2 : j2 = some v → V κ M_R_apart (RI F) 30 [none, none, none] [] st := by
    intro h
    rw [hdj2] at h
    exact b_R_apart_30  (k1 := lfIP h k)
  clear hdj2
  refine b_R_apart_5  (k1 := fun e3 => ?_) (k2 := fun e3 => ?_)
  · replace h := if_t e3 h
    exact hj2  h
  · replace h := if_f e3 h
    refine b_R_apart_8 (l_a0 := l_a0) (k1 := t_R_isSheet l_a0 rfl ?_)
    refine b_R_apart_13  (k1 := fun e4 => ?_) (k2 := fun e4 => ?_)
    · replace h := if_t e4 h
      exact hj2  h
    · replace h := if_f e4 h
      refine b_R_apart_16  (k1 := fun e5 => ?_) (k2 := fun e5 => ?_)
      · replace h := if_t e5 h
        exact hj2  h
      · replace h := if_f e5 h
        obtain ⟨v1, h6, h⟩ := bnd_some h
        refine b_R_apart_21 (l_a0 := l_a0) (k1 := t_R_differ l_a0 h6 ?_)
        exact b_R_apart_27  (k1 := lfIP h k)
noncomputable def L_R_likest_15 (κ : Ko) (st : AS) : Nat → Nat → Int32 → Int32 → Int32 → Option Int32
  | 0, _, _, _, _ => none
  | d + 1, a0, x1, x2, x3 => if (gi st a0 24) ≤ x3 then some x2 else jn (L_R_likest_15 κ st  d a0 x1 x2 (x3 + 1)) fun j4 => if x3 = x1 then j4 else jn (L_R_likest_15 κ st  d a0 x1 x3 (x3 + 1)) fun j3 => if x2 < 0 then j3 else bnd (f_R_differ κ a0 x1 x3 st) (fun v1 => bnd (f_R_differ κ a0 x1 x2 st) (fun v2 => if v2 ≤ v1 then j4 else j3))
noncomputable def f_R_likest (κ : Ko) (a0 : Nat) (x1 : Int32) (st : AS) : Option Int32 := if (f_R_isSheet κ a0 x1 st) = 0 then some ((-1) : Int32) else L_R_likest_15 κ st  FU a0 x1 ((-2) : Int32) (0 : Int32)
theorem l_R_likest_15 {κ : Ko} {F : Int32 → AS → Prop} {v : Int32} {st : AS} (k : F v st) : ∀ (d : Nat) (a0 : Nat) (x1 : Int32) (x2 : Int32) (x3 : Int32), ly κ a0 = (12, 36) → L_R_likest_15 κ st  d a0 x1 x2 x3 = some v → V κ M_R_likest (RI F) 15 [some (.ref a0), some (.int x1), some (.int x2), some (.int x3)] [] st := by
  intro d
  induction d with
  | zero =>
    intro a0 x1 x2 x3 l_a0 h
    exact nn_some h
  | succ d ih =>
    intro a0 x1 x2 x3 l_a0 h
    rw [L_R_likest_15] at h
    refine b_R_likest_15 (l_a0 := l_a0) (k1 := fun e5 => ?_) (k2 := fun e5 => ?_)
    · replace h := if_t e5 h
      exact b_R_likest_55  (k1 := lfIP h k)
    · replace h := if_f e5 h
      obtain ⟨j4, hdj4, h⟩ := jn_some h
      have hj4 : j4 = some v → V κ M_R_likest (RI F) 49 [some (.ref a0), some (.int x1), some (.int x2), some (.int x3)] [] st := by
        intro h
        rw [hdj4] at h
        refine b_R_likest_49  (k1 := ?_)
        exact ih _ _ _ _ l_a0 h
      clear hdj4
      refine b_R_likest_23  (k1 := fun e6 => ?_) (k2 := fun e6 => ?_)
      · replace h := if_t e6 h
        exact hj4  h
      · replace h := if_f e6 h
        obtain ⟨j3, hdj3, h⟩ := jn_some h
        have hj3 : j3 = some v → V κ M_R_likest (RI F) 47 [some (.ref a0), some (.int x1), none, some (.int x3)] [] st := by
          intro h
          rw [hdj3] at h
          refine b_R_likest_47  (k1 := ?_)
          exact ih _ _ _ _ l_a0 h
        clear hdj3
        refine b_R_likest_28  (k1 := fun e7 => ?_) (k2 := fun e7 => ?_)
        · replace h := if_t e7 h
          exact hj3  h
        · replace h := if_f e7 h
          obtain ⟨v1, h8, h⟩ := bnd_some h
          refine b_R_likest_32 (l_a0 := l_a0) (k1 := t_R_differ l_a0 h8 ?_)
          obtain ⟨v2, h9, h⟩ := bnd_some h
          refine b_R_likest_38 (l_a0 := l_a0) (k1 := t_R_differ l_a0 h9 ?_)
          refine b_R_likest_44  (k1 := fun e10 => ?_) (k2 := fun e10 => ?_)
          · replace h := if_t e10 h
            exact hj4  h
          · replace h := if_f e10 h
            exact hj3  h
theorem t_R_likest {κ : Ko} {F : Int32 → AS → Prop} {a0 : Nat} {x1 : Int32} {st : AS} {v : Int32} (l_a0 : ly κ a0 = (12, 36)) (h : f_R_likest κ a0 x1 st = some v) (k : F v st) : C κ M_R_likest [.ref a0, .int x1] st (RI F) := by
  unfold f_R_likest at h
  refine e_R_likest ?_
  refine b_R_likest_0 (l_a0 := l_a0) (k1 := t_R_isSheet l_a0 rfl ?_)
  refine b_R_likest_5  (k1 := fun e11 => ?_) (k2 := fun e11 => ?_)
  · replace h := if_f e11 h
    refine b_R_likest_10  (k1 := ?_)
    refine l_R_likest_15 k FU _ _ _ _ l_a0 h
  · replace h := if_t e11 h
    exact b_R_likest_8  (k1 := lfIP h k)
noncomputable def f_R_isEdgeEnd (κ : Ko) (a0 : Nat) (x1 : Int32) (x2 : Int32) (x3 : Int32) (st : AS) : Option Int32 := bnd (f_R_ridgeOf κ a0 x1 x2 ((2 : Int32) + x3) st) (fun v1 => jn (some (1 : Int32)) fun j4 => if v1 = 0 then j4 else bnd (f_R_ridgeOf κ a0 x1 x2 (0 : Int32) st) (fun v2 => bnd (f_R_sheetOf κ a0 x1 ((1 : Int32) - v2) st) (fun v3 => if v1 = v3 then j4 else some (0 : Int32))))
theorem t_R_isEdgeEnd {κ : Ko} {F : Int32 → AS → Prop} {a0 : Nat} {x1 : Int32} {x2 : Int32} {x3 : Int32} {st : AS} {v : Int32} (l_a0 : ly κ a0 = (12, 36)) (h : f_R_isEdgeEnd κ a0 x1 x2 x3 st = some v) (k : F v st) : C κ M_R_isEdgeEnd [.ref a0, .int x1, .int x2, .int x3] st (RI F) := by
  unfold f_R_isEdgeEnd at h
  refine e_R_isEdgeEnd ?_
  obtain ⟨v1, h5, h⟩ := bnd_some h
  refine b_R_isEdgeEnd_0 (l_a0 := l_a0) (k1 := t_R_ridgeOf l_a0 h5 ?_)
  obtain ⟨j4, hdj4, h⟩ := jn_some h
  have hj4 : j4 = some v → V κ M_R_isEdgeEnd (RI F) 35 [none, none, none, none, none] [] st := by
    intro h
    rw [hdj4] at h
    exact b_R_isEdgeEnd_35  (k1 := lfIP h k)
  clear hdj4
  refine b_R_isEdgeEnd_9  (k1 := fun e6 => ?_) (k2 := fun e6 => ?_)
  · replace h := if_t e6 h
    exact hj4  h
  · replace h := if_f e6 h
    obtain ⟨v2, h7, h⟩ := bnd_some h
    refine b_R_isEdgeEnd_16 (l_a0 := l_a0) (k1 := t_R_ridgeOf l_a0 h7 ?_)
    obtain ⟨v3, h8, h⟩ := bnd_some h
    refine b_R_isEdgeEnd_28 (l_c1 := l_a0) (k1 := t_R_sheetOf l_a0 h8 ?_)
    refine b_R_isEdgeEnd_32  (k1 := fun e9 => ?_) (k2 := fun e9 => ?_)
    · replace h := if_f e9 h
      exact b_R_isEdgeEnd_39  (k1 := lfIP h k)
    · replace h := if_t e9 h
      exact hj4  h
noncomputable def L_R_sees_177 (κ : Ko) (k_283 : Nat → Int32 → Int32 → Int32 → Int32 → Int32 → Int32 → AS → Option AS) : Nat → Nat → Int32 → Int32 → Int32 → Int32 → Int32 → Int32 → Int32 → AS → Option AS
  | 0, _, _, _, _, _, _, _, _, _ => none
  | d + 1, a0, x2, x3, x4, x5, x6, x7, x8, st => grd (vp_in x3 18) (if (gi st (a0 + 6) (x3 : Int32).toNatClampNeg) ≤ x8 then k_283 a0 x2 x3 x4 x5 x6 x7 st else bnd2 (f_R_isHolding κ a0 x3 x8 st) (fun v20 s21 => jn (fun (v24 : Int32) => jn (fun (v28 : Int32) (v29 : Int32) => jn (fun (v31 : Int32) => L_R_sees_177 κ k_283 d a0 x2 x3 x4 v28 v31 (x7 ||| 0) (x8 + 1) s21) fun j30 => if v20 = 0 then j30 (x6 ||| v29) else if v24 = 0 then j30 (x6 ||| v29) else L_R_sees_177 κ k_283 d a0 x2 x3 x4 v28 (x6 ||| v29) (x7 ||| 1) (x8 + 1) s21) fun j27 => jn (fun (v26 : Int32) => j27 v26 (0 : Int32)) fun j25 => if v20 = 0 then j25 (x5 ||| (if v24 = 0 then (1 : Int32) else (0 : Int32) : Int32)) else if v24 = 0 then j27 (x5 ||| (if v24 = 0 then (1 : Int32) else (0 : Int32) : Int32)) (1 : Int32) else j25 (x5 ||| (if v24 = 0 then (1 : Int32) else (0 : Int32) : Int32))) fun j23 => grd (vp_in (((60 : Int32) * x3) + ((5 : Int32) * x8)) 1080) (if (gi s21 (a0 + 5) (((60 : Int32) * x3) + ((5 : Int32) * x8) : Int32).toNatClampNeg) = 1 then j23 (1 : Int32) else j23 (0 : Int32))))
noncomputable def L_R_sees_8 (κ : Ko) : Nat → Nat → Int32 → Int32 → Int32 → AS → Option AS
  | 0, _, _, _, _, _ => none
  | d + 1, a0, x2, x3, x4, st => bnd (f_R_sheetOf κ a0 x2 (7 : Int32) st) (fun v1 => if v1 ≤ x4 then some st else bnd (f_R_longOf κ a0 x2 x4 st) (fun v2 => grd (vp_in (0 : Int32) 8) (bnd (f_R_ridgeOf κ a0 x2 x4 (4 : Int32) (ul st (a0 + 13) ((0 : Int32) : Int32).toNatClampNeg ((v2 : Int32).toInt64))) (fun v4 => grd (vp_in (1 : Int32) 8) (bnd (f_R_ridgeOf κ a0 x2 x4 (6 : Int32) (ul (ul st (a0 + 13) ((0 : Int32) : Int32).toNatClampNeg ((v2 : Int32).toInt64)) (a0 + 13) ((1 : Int32) : Int32).toNatClampNeg ((v4 : Int32).toInt64))) (fun v6 => grd (vp_in (2 : Int32) 8) (bnd (f_R_ridgeOf κ a0 x2 x4 (5 : Int32) (ul (ul (ul st (a0 + 13) ((0 : Int32) : Int32).toNatClampNeg ((v2 : Int32).toInt64)) (a0 + 13) ((1 : Int32) : Int32).toNatClampNeg ((v4 : Int32).toInt64)) (a0 + 13) ((2 : Int32) : Int32).toNatClampNeg ((v6 : Int32).toInt64))) (fun v8 => grd (vp_in (3 : Int32) 8) (bnd (f_R_ridgeOf κ a0 x2 x4 (0 : Int32) (ul (ul (ul (ul st (a0 + 13) ((0 : Int32) : Int32).toNatClampNeg ((v2 : Int32).toInt64)) (a0 + 13) ((1 : Int32) : Int32).toNatClampNeg ((v4 : Int32).toInt64)) (a0 + 13) ((2 : Int32) : Int32).toNatClampNeg ((v6 : Int32).toInt64)) (a0 + 13) ((3 : Int32) : Int32).toNatClampNeg ((v8 : Int32).toInt64))) (fun v10 => grd (vp_in (4 : Int32) 8) (bnd (f_R_ridgeOf κ a0 x2 x4 (1 : Int32) (ul (ul (ul (ul (ul st (a0 + 13) ((0 : Int32) : Int32).toNatClampNeg ((v2 : Int32).toInt64)) (a0 + 13) ((1 : Int32) : Int32).toNatClampNeg ((v4 : Int32).toInt64)) (a0 + 13) ((2 : Int32) : Int32).toNatClampNeg ((v6 : Int32).toInt64)) (a0 + 13) ((3 : Int32) : Int32).toNatClampNeg ((v8 : Int32).toInt64)) (a0 + 13) ((4 : Int32) : Int32).toNatClampNeg ((v10 : Int32).toInt64))) (fun v12 => grd (vp_in (5 : Int32) 8) (bnd (f_R_isEdgeEnd κ a0 x2 x4 (0 : Int32) (ul (ul (ul (ul (ul (ul st (a0 + 13) ((0 : Int32) : Int32).toNatClampNeg ((v2 : Int32).toInt64)) (a0 + 13) ((1 : Int32) : Int32).toNatClampNeg ((v4 : Int32).toInt64)) (a0 + 13) ((2 : Int32) : Int32).toNatClampNeg ((v6 : Int32).toInt64)) (a0 + 13) ((3 : Int32) : Int32).toNatClampNeg ((v8 : Int32).toInt64)) (a0 + 13) ((4 : Int32) : Int32).toNatClampNeg ((v10 : Int32).toInt64)) (a0 + 13) ((5 : Int32) : Int32).toNatClampNeg ((v12 : Int32).toInt64))) (fun v14 => bnd (f_R_isEdgeEnd κ a0 x2 x4 (1 : Int32) (ul (ul (ul (ul (ul (ul st (a0 + 13) ((0 : Int32) : Int32).toNatClampNeg ((v2 : Int32).toInt64)) (a0 + 13) ((1 : Int32) : Int32).toNatClampNeg ((v4 : Int32).toInt64)) (a0 + 13) ((2 : Int32) : Int32).toNatClampNeg ((v6 : Int32).toInt64)) (a0 + 13) ((3 : Int32) : Int32).toNatClampNeg ((v8 : Int32).toInt64)) (a0 + 13) ((4 : Int32) : Int32).toNatClampNeg ((v10 : Int32).toInt64)) (a0 + 13) ((5 : Int32) : Int32).toNatClampNeg ((v12 : Int32).toInt64))) (fun v15 => grd (vp_in (6 : Int32) 8) (bnd (f_R_sheetOf κ a0 x2 (5 : Int32) (ul (ul (ul (ul (ul (ul (ul st (a0 + 13) ((0 : Int32) : Int32).toNatClampNeg ((v2 : Int32).toInt64)) (a0 + 13) ((1 : Int32) : Int32).toNatClampNeg ((v4 : Int32).toInt64)) (a0 + 13) ((2 : Int32) : Int32).toNatClampNeg ((v6 : Int32).toInt64)) (a0 + 13) ((3 : Int32) : Int32).toNatClampNeg ((v8 : Int32).toInt64)) (a0 + 13) ((4 : Int32) : Int32).toNatClampNeg ((v10 : Int32).toInt64)) (a0 + 13) ((5 : Int32) : Int32).toNatClampNeg ((v12 : Int32).toInt64)) (a0 + 13) ((6 : Int32) : Int32).toNatClampNeg (((if v14 = 0 then (0 : Int32) else (1 : Int32) : Int32) + (if v15 = 0 then (0 : Int32) else (1 : Int32) : Int32) : Int32).toInt64))) (fun v17 => grd (vp_in (7 : Int32) 8) (L_R_sees_177 κ (fun (v42 : Nat) (v44 : Int32) (v45 : Int32) (v46 : Int32) (v47 : Int32) (v48 : Int32) (v49 : Int32) (s50 : AS) => jn (fun (v54 : Int32) => grd (vp_in v46 400) (L_R_sees_8 κ  d v42 v44 v45 (v46 + 1) (ui s50 (v42 + 15) (v46 : Int32).toNatClampNeg (vp_nar .boolean v54)))) fun j53 => jn (j53 (0 : Int32)) fun j52 => jn (if v49 = 0 then j53 (1 : Int32) else j52) fun j51 => if v48 = 0 then if v47 = 0 then j51 else j52 else j51) FU a0 x2 x3 x4 (0 : Int32) (0 : Int32) (0 : Int32) (0 : Int32) (ul (ul (ul (ul (ul (ul (ul (ul st (a0 + 13) ((0 : Int32) : Int32).toNatClampNeg ((v2 : Int32).toInt64)) (a0 + 13) ((1 : Int32) : Int32).toNatClampNeg ((v4 : Int32).toInt64)) (a0 + 13) ((2 : Int32) : Int32).toNatClampNeg ((v6 : Int32).toInt64)) (a0 + 13) ((3 : Int32) : Int32).toNatClampNeg ((v8 : Int32).toInt64)) (a0 + 13) ((4 : Int32) : Int32).toNatClampNeg ((v10 : Int32).toInt64)) (a0 + 13) ((5 : Int32) : Int32).toNatClampNeg ((v12 : Int32).toInt64)) (a0 + 13) ((6 : Int32) : Int32).toNatClampNeg (((if v14 = 0 then (0 : Int32) else (1 : Int32) : Int32) + (if v15 = 0 then (0 : Int32) else (1 : Int32) : Int32) : Int32).toInt64)) (a0 + 13) ((7 : Int32) : Int32).toNatClampNeg ((v17 : Int32).toInt64))))))))))))))))))))
noncomputable def f_R_sees (κ : Ko) (a0 : Nat) (x1 : Int32) (x2 : Int32) (st : AS) : Option AS := L_R_sees_8 κ  FU a0 x2 ((12 : Int32) + x1) (0 : Int32) st
theorem l_R_sees_177 {κ : Ko} {F : AS → Prop} {s' : AS} (k : F s') {k_283 : Nat → Int32 → Int32 → Int32 → Int32 → Int32 → Int32 → AS → Option AS} (hk_283 : ∀ (a0 : Nat) (x2 : Int32) (x3 : Int32) (x4 : Int32) (x5 : Int32) (x6 : Int32) (x7 : Int32) (st : AS), ly κ a0 = (12, 36) → k_283 a0 x2 x3 x4 x5 x6 x7 st = some s' → V κ M_R_sees (RV F) 283 [some (.ref a0), none, some (.int x2), some (.int x3), some (.int x4), some (.int x5), some (.int x6), some (.int x7), none, none, none] [] st) : ∀ (d : Nat) (a0 : Nat) (x2 : Int32) (x3 : Int32) (x4 : Int32) (x5 : Int32) (x6 : Int32) (x7 : Int32) (x8 : Int32) (st : AS), ly κ a0 = (12, 36) → L_R_sees_177 κ k_283 d a0 x2 x3 x4 x5 x6 x7 x8 st = some s' → V κ M_R_sees (RV F) 177 [some (.ref a0), none, some (.int x2), some (.int x3), some (.int x4), some (.int x5), some (.int x6), some (.int x7), some (.int x8), none, none] [] st := by
  intro d
  induction d with
  | zero =>
    intro a0 x2 x3 x4 x5 x6 x7 x8 st l_a0 h
    exact nn_some h
  | succ d ih =>
    intro a0 x2 x3 x4 x5 x6 x7 x8 st l_a0 h
    rw [L_R_sees_177] at h
    obtain ⟨h19, h⟩ := grd_some h
    refine b_R_sees_177 (l_a0 := l_a0) (b1 := h19) (k2 := fun e32 => ?_) (k3 := fun e32 => ?_)
    · replace h := if_t e32 h
      exact hk_283 _ _ _ _ _ _ _ _ l_a0 h
    · replace h := if_f e32 h
      obtain ⟨v20, s21, h33, h⟩ := bnd2_some h
      refine b_R_sees_188 (l_a0 := l_a0) (k1 := t_R_isHolding l_a0 h33 ?_)
      obtain ⟨j23, hdj23, h⟩ := jn_some h
      have hj23 : ∀ (v24 : Int32), j23 v24 = some s' → V κ M_R_sees (RV F) 220 [some (.ref a0), none, some (.int x2), some (.int x3), some (.int x4), some (.int x5), some (.int x6), some (.int x7), some (.int x8), some (.int v20), none] [.int v24] s21 := by
        intro v24 h
        rw [hdj23] at h
        have K35 : V κ M_R_sees (RV F) 234 [some (.ref a0), none, some (.int x2), some (.int x3), some (.int x4), none, some (.int x6), some (.int x7), some (.int x8), some (.int v20), some (.int v24)] [.int (if v24 = 0 then (1 : Int32) else (0 : Int32) : Int32), .int x5] s21 := by
          obtain ⟨j27, hdj27, h⟩ := jn_some h
          have hj27 : ∀ (v28 : Int32) (v29 : Int32), j27 v28 v29 = some s' → V κ M_R_sees (RV F) 254 [some (.ref a0), none, some (.int x2), some (.int x3), some (.int x4), some (.int v28), none, some (.int x7), some (.int x8), some (.int v20), some (.int v24)] [.int v29, .int x6] s21 := by
            intro v28 v29 h
            rw [hdj27] at h
            obtain ⟨j30, hdj30, h⟩ := jn_some h
            have hj30 : ∀ (v31 : Int32), j30 v31 = some s' → V κ M_R_sees (RV F) 273 [some (.ref a0), none, some (.int x2), some (.int x3), some (.int x4), some (.int v28), some (.int v31), none, some (.int x8), none, none] [.int x7] s21 := by
              intro v31 h
              rw [hdj30] at h
              refine b_R_sees_273  (k1 := ?_)
              exact ih _ _ _ _ _ _ _ _ _ l_a0 h
            clear hdj30
            refine b_R_sees_254  (k1 := fun e36 => ?_) (k2 := fun e36 => ?_)
            · replace h := if_t e36 h
              exact hj30 _  h
            · replace h := if_f e36 h
              refine b_R_sees_264  (k1 := fun e37 => ?_) (k2 := fun e37 => ?_)
              · replace h := if_t e37 h
                exact hj30 _  h
              · replace h := if_f e37 h
                refine b_R_sees_269  (k1 := ?_)
                exact ih _ _ _ _ _ _ _ _ _ l_a0 h
          clear hdj27
          obtain ⟨j25, hdj25, h⟩ := jn_some h
          have hj25 : ∀ (v26 : Int32), j25 v26 = some s' → V κ M_R_sees (RV F) 253 [some (.ref a0), none, some (.int x2), some (.int x3), some (.int x4), some (.int v26), none, some (.int x7), some (.int x8), some (.int v20), some (.int v24)] [.int x6] s21 := by
            intro v26 h
            rw [hdj25] at h
            refine b_R_sees_253  (k1 := ?_)
            exact hj27 _ _  h
          clear hdj25
          refine b_R_sees_234  (k1 := fun e38 => ?_) (k2 := fun e38 => ?_)
          · replace h := if_t e38 h
            exact hj25 _  h
          · replace h := if_f e38 h
            refine b_R_sees_244  (k1 := fun e39 => ?_) (k2 := fun e39 => ?_)
            · replace h := if_f e39 h
              exact hj25 _  h
            · replace h := if_t e39 h
              refine b_R_sees_249  (k1 := ?_)
              exact hj27 _ _  h
        refine b_R_sees_220  (k1 := fun e40 => ?_) (k2 := fun e40 => ?_)
        · refine b_R_sees_233  (k1 := ?_)
          exact (ite_f (P := fun z => V κ M_R_sees (RV F) 234 [some (.ref a0), none, some (.int x2), some (.int x3), some (.int x4), none, some (.int x6), some (.int x7), some (.int x8), some (.int v20), some (.int v24)] [.int z, .int x5] s21) e40 K35)
        · refine b_R_sees_229  (k1 := ?_)
          exact (ite_t (P := fun z => V κ M_R_sees (RV F) 234 [some (.ref a0), none, some (.int x2), some (.int x3), some (.int x4), none, some (.int x6), some (.int x7), some (.int x8), some (.int v20), some (.int v24)] [.int z, .int x5] s21) e40 K35)
      clear hdj23
      obtain ⟨h22, h⟩ := grd_some h
      refine b_R_sees_195 (l_a0 := l_a0) (b1 := h22) (k2 := fun e41 => ?_) (k3 := fun e41 => ?_)
      · replace h := if_f e41 h
        refine b_R_sees_219  (k1 := ?_)
        exact hj23 _  h
      · replace h := if_t e41 h
        refine b_R_sees_215  (k1 := ?_)
        exact hj23 _  h
theorem l_R_sees_8 {κ : Ko} {F : AS → Prop} {s' : AS} (k : F s') : ∀ (d : Nat) (a0 : Nat) (x2 : Int32) (x3 : Int32) (x4 : Int32) (st : AS), ly κ a0 = (12, 36) → L_R_sees_8 κ  d a0 x2 x3 x4 st = some s' → V κ M_R_sees (RV F) 8 [some (.ref a0), none, some (.int x2), some (.int x3), some (.int x4), none, none, none, none, none, none] [] st := by
  intro d
  induction d with
  | zero =>
    intro a0 x2 x3 x4 st l_a0 h
    exact nn_some h
  | succ d ih =>
    intro a0 x2 x3 x4 st l_a0 h
    rw [L_R_sees_8] at h
    obtain ⟨v1, h56, h⟩ := bnd_some h
    refine b_R_sees_8 (l_a0 := l_a0) (k1 := t_R_sheetOf l_a0 h56 ?_)
    refine b_R_sees_17  (k1 := fun e57 => ?_) (k2 := fun e57 => ?_)
    · replace h := if_t e57 h
      exact b_R_sees_316  (k1 := lfV h k)
    · replace h := if_f e57 h
      obtain ⟨v2, h58, h⟩ := bnd_some h
      refine b_R_sees_20 (l_a0 := l_a0) (k1 := t_R_longOf l_a0 h58 ?_)
      obtain ⟨h3, h⟩ := grd_some h
      obtain ⟨v4, h59, h⟩ := bnd_some h
      refine b_R_sees_32 (l_c0 := (co12 13 51 8 rfl l_a0)) (b1 := h3) (l_a0 := l_a0) (k2 := t_R_ridgeOf l_a0 h59 ?_)
      obtain ⟨h5, h⟩ := grd_some h
      obtain ⟨v6, h60, h⟩ := bnd_some h
      refine b_R_sees_47 (l_c0 := (co12 13 51 8 rfl l_a0)) (b1 := h5) (l_a0 := l_a0) (k2 := t_R_ridgeOf l_a0 h60 ?_)
      obtain ⟨h7, h⟩ := grd_some h
      obtain ⟨v8, h61, h⟩ := bnd_some h
      refine b_R_sees_63 (l_c0 := (co12 13 51 8 rfl l_a0)) (b1 := h7) (l_a0 := l_a0) (k2 := t_R_ridgeOf l_a0 h61 ?_)
      obtain ⟨h9, h⟩ := grd_some h
      obtain ⟨v10, h62, h⟩ := bnd_some h
      refine b_R_sees_78 (l_c0 := (co12 13 51 8 rfl l_a0)) (b1 := h9) (l_a0 := l_a0) (k2 := t_R_ridgeOf l_a0 h62 ?_)
      obtain ⟨h11, h⟩ := grd_some h
      obtain ⟨v12, h63, h⟩ := bnd_some h
      refine b_R_sees_93 (l_c0 := (co12 13 51 8 rfl l_a0)) (b1 := h11) (l_a0 := l_a0) (k2 := t_R_ridgeOf l_a0 h63 ?_)
      obtain ⟨h13, h⟩ := grd_some h
      obtain ⟨v14, h64, h⟩ := bnd_some h
      refine b_R_sees_108 (l_c0 := (co12 13 51 8 rfl l_a0)) (b1 := h13) (l_a0 := l_a0) (k2 := t_R_isEdgeEnd l_a0 h64 ?_)
      have K66 : V κ M_R_sees (RV F) 132 [some (.ref a0), none, some (.int x2), some (.int x3), some (.int x4), none, none, none, none, none, none] [.int (if v14 = 0 then (0 : Int32) else (1 : Int32) : Int32), .int (6 : Int32), .ref (a0 + 13)] (ul (ul (ul (ul (ul (ul st (a0 + 13) ((0 : Int32) : Int32).toNatClampNeg ((v2 : Int32).toInt64)) (a0 + 13) ((1 : Int32) : Int32).toNatClampNeg ((v4 : Int32).toInt64)) (a0 + 13) ((2 : Int32) : Int32).toNatClampNeg ((v6 : Int32).toInt64)) (a0 + 13) ((3 : Int32) : Int32).toNatClampNeg ((v8 : Int32).toInt64)) (a0 + 13) ((4 : Int32) : Int32).toNatClampNeg ((v10 : Int32).toInt64)) (a0 + 13) ((5 : Int32) : Int32).toNatClampNeg ((v12 : Int32).toInt64)) := by
        obtain ⟨v15, h67, h⟩ := bnd_some h
        refine b_R_sees_132 (l_a0 := l_a0) (k1 := t_R_isEdgeEnd l_a0 h67 ?_)
        have K69 : V κ M_R_sees (RV F) 148 [some (.ref a0), none, some (.int x2), some (.int x3), some (.int x4), none, none, none, none, none, none] [.int (if v15 = 0 then (0 : Int32) else (1 : Int32) : Int32), .int (if v14 = 0 then (0 : Int32) else (1 : Int32) : Int32), .int (6 : Int32), .ref (a0 + 13)] (ul (ul (ul (ul (ul (ul st (a0 + 13) ((0 : Int32) : Int32).toNatClampNeg ((v2 : Int32).toInt64)) (a0 + 13) ((1 : Int32) : Int32).toNatClampNeg ((v4 : Int32).toInt64)) (a0 + 13) ((2 : Int32) : Int32).toNatClampNeg ((v6 : Int32).toInt64)) (a0 + 13) ((3 : Int32) : Int32).toNatClampNeg ((v8 : Int32).toInt64)) (a0 + 13) ((4 : Int32) : Int32).toNatClampNeg ((v10 : Int32).toInt64)) (a0 + 13) ((5 : Int32) : Int32).toNatClampNeg ((v12 : Int32).toInt64)) := by
          obtain ⟨h16, h⟩ := grd_some h
          obtain ⟨v17, h70, h⟩ := bnd_some h
          refine b_R_sees_148 (l_c0 := (co12 13 51 8 rfl l_a0)) (b1 := h16) (l_a0 := l_a0) (k2 := t_R_sheetOf l_a0 h70 ?_)
          obtain ⟨h18, h⟩ := grd_some h
          refine b_R_sees_163 (l_c0 := (co12 13 51 8 rfl l_a0)) (b1 := h18) (k2 := ?_)
          refine l_R_sees_177 k ?_ FU _ _ _ _ _ _ _ _ _ l_a0 h
          · intro v42 v44 v45 v46 v47 v48 v49 s50 l43 h
            obtain ⟨j53, hdj53, h⟩ := jn_some h
            have hj53 : ∀ (v54 : Int32), j53 v54 = some s' → V κ M_R_sees (RV F) 309 [some (.ref v42), none, some (.int v44), some (.int v45), some (.int v46), none, none, none, none, none, none] [.int v54, .int v46, .ref (v42 + 15)] s50 := by
              intro v54 h
              rw [hdj53] at h
              obtain ⟨h55, h⟩ := grd_some h
              refine b_R_sees_309 (l_c0 := (co12 15 53 400 rfl l43)) (b1 := h55) (k2 := ?_)
              exact ih _ _ _ _ _ l43 h
            clear hdj53
            obtain ⟨j52, hdj52, h⟩ := jn_some h
            have hj52 : j52 = some s' → V κ M_R_sees (RV F) 308 [some (.ref v42), none, some (.int v44), some (.int v45), some (.int v46), none, none, none, none, none, none] [.int v46, .ref (v42 + 15)] s50 := by
              intro h
              rw [hdj52] at h
              refine b_R_sees_308  (k1 := ?_)
              exact hj53 _  h
            clear hdj52
            obtain ⟨j51, hdj51, h⟩ := jn_some h
            have hj51 : j51 = some s' → V κ M_R_sees (RV F) 299 [some (.ref v42), none, some (.int v44), some (.int v45), some (.int v46), none, none, some (.int v49), none, none, none] [.int v46, .ref (v42 + 15)] s50 := by
              intro h
              rw [hdj51] at h
              refine b_R_sees_299  (k1 := fun e71 => ?_) (k2 := fun e71 => ?_)
              · replace h := if_f e71 h
                exact hj52  h
              · replace h := if_t e71 h
                refine b_R_sees_304  (k1 := ?_)
                exact hj53 _  h
            clear hdj51
            refine b_R_sees_283 (l_a0 := l43) (k1 := fun e72 => ?_) (k2 := fun e72 => ?_)
            · replace h := if_f e72 h
              exact hj51  h
            · replace h := if_t e72 h
              refine b_R_sees_294  (k1 := fun e73 => ?_) (k2 := fun e73 => ?_)
              · replace h := if_f e73 h
                exact hj52  h
              · replace h := if_t e73 h
                exact hj51  h
        refine b_R_sees_140  (k1 := fun e74 => ?_) (k2 := fun e74 => ?_)
        · refine b_R_sees_147  (k1 := ?_)
          exact (ite_t (P := fun z => V κ M_R_sees (RV F) 148 [some (.ref a0), none, some (.int x2), some (.int x3), some (.int x4), none, none, none, none, none, none] [.int z, .int (if v14 = 0 then (0 : Int32) else (1 : Int32) : Int32), .int (6 : Int32), .ref (a0 + 13)] (ul (ul (ul (ul (ul (ul st (a0 + 13) ((0 : Int32) : Int32).toNatClampNeg ((v2 : Int32).toInt64)) (a0 + 13) ((1 : Int32) : Int32).toNatClampNeg ((v4 : Int32).toInt64)) (a0 + 13) ((2 : Int32) : Int32).toNatClampNeg ((v6 : Int32).toInt64)) (a0 + 13) ((3 : Int32) : Int32).toNatClampNeg ((v8 : Int32).toInt64)) (a0 + 13) ((4 : Int32) : Int32).toNatClampNeg ((v10 : Int32).toInt64)) (a0 + 13) ((5 : Int32) : Int32).toNatClampNeg ((v12 : Int32).toInt64))) e74 K69)
        · refine b_R_sees_143  (k1 := ?_)
          exact (ite_f (P := fun z => V κ M_R_sees (RV F) 148 [some (.ref a0), none, some (.int x2), some (.int x3), some (.int x4), none, none, none, none, none, none] [.int z, .int (if v14 = 0 then (0 : Int32) else (1 : Int32) : Int32), .int (6 : Int32), .ref (a0 + 13)] (ul (ul (ul (ul (ul (ul st (a0 + 13) ((0 : Int32) : Int32).toNatClampNeg ((v2 : Int32).toInt64)) (a0 + 13) ((1 : Int32) : Int32).toNatClampNeg ((v4 : Int32).toInt64)) (a0 + 13) ((2 : Int32) : Int32).toNatClampNeg ((v6 : Int32).toInt64)) (a0 + 13) ((3 : Int32) : Int32).toNatClampNeg ((v8 : Int32).toInt64)) (a0 + 13) ((4 : Int32) : Int32).toNatClampNeg ((v10 : Int32).toInt64)) (a0 + 13) ((5 : Int32) : Int32).toNatClampNeg ((v12 : Int32).toInt64))) e74 K69)
      refine b_R_sees_124  (k1 := fun e75 => ?_) (k2 := fun e75 => ?_)
      · refine b_R_sees_131  (k1 := ?_)
        exact (ite_t (P := fun z => V κ M_R_sees (RV F) 132 [some (.ref a0), none, some (.int x2), some (.int x3), some (.int x4), none, none, none, none, none, none] [.int z, .int (6 : Int32), .ref (a0 + 13)] (ul (ul (ul (ul (ul (ul st (a0 + 13) ((0 : Int32) : Int32).toNatClampNeg ((v2 : Int32).toInt64)) (a0 + 13) ((1 : Int32) : Int32).toNatClampNeg ((v4 : Int32).toInt64)) (a0 + 13) ((2 : Int32) : Int32).toNatClampNeg ((v6 : Int32).toInt64)) (a0 + 13) ((3 : Int32) : Int32).toNatClampNeg ((v8 : Int32).toInt64)) (a0 + 13) ((4 : Int32) : Int32).toNatClampNeg ((v10 : Int32).toInt64)) (a0 + 13) ((5 : Int32) : Int32).toNatClampNeg ((v12 : Int32).toInt64))) e75 K66)
      · refine b_R_sees_127  (k1 := ?_)
        exact (ite_f (P := fun z => V κ M_R_sees (RV F) 132 [some (.ref a0), none, some (.int x2), some (.int x3), some (.int x4), none, none, none, none, none, none] [.int z, .int (6 : Int32), .ref (a0 + 13)] (ul (ul (ul (ul (ul (ul st (a0 + 13) ((0 : Int32) : Int32).toNatClampNeg ((v2 : Int32).toInt64)) (a0 + 13) ((1 : Int32) : Int32).toNatClampNeg ((v4 : Int32).toInt64)) (a0 + 13) ((2 : Int32) : Int32).toNatClampNeg ((v6 : Int32).toInt64)) (a0 + 13) ((3 : Int32) : Int32).toNatClampNeg ((v8 : Int32).toInt64)) (a0 + 13) ((4 : Int32) : Int32).toNatClampNeg ((v10 : Int32).toInt64)) (a0 + 13) ((5 : Int32) : Int32).toNatClampNeg ((v12 : Int32).toInt64))) e75 K66)
theorem t_R_sees {κ : Ko} {F : AS → Prop} {a0 : Nat} {x1 : Int32} {x2 : Int32} {st : AS} {s' : AS} (l_a0 : ly κ a0 = (12, 36)) (h : f_R_sees κ a0 x1 x2 st = some s') (k : F s') : C κ M_R_sees [.ref a0, .int x1, .int x2] st (RV F) := by
  unfold f_R_sees at h
  refine e_R_sees ?_
  refine b_R_sees_0  (k1 := ?_)
  refine l_R_sees_8 k FU _ _ _ _ _ l_a0 h
noncomputable def f_R_goesThrough (κ : Ko) (a0 : Nat) (x1 : Int32) (x2 : Int32) (x3 : Int32) (x4 : Int32) (st : AS) : Option Int32 := bnd (f_R_ridgeOf κ a0 x1 x2 (0 : Int32) st) (fun v1 => bnd (f_R_ridgeOf κ a0 x1 x3 (0 : Int32) st) (fun v2 => jn (some (0 : Int32)) fun j8 => if v1 = v2 then j8 else bnd (f_R_ridgeOf κ a0 x1 x2 (1 : Int32) st) (fun v3 => bnd (f_R_ridgeOf κ a0 x1 x3 ((2 : Int32) + x4) st) (fun v4 => if v3 = v4 then bnd (f_R_ridgeOf κ a0 x1 x3 (1 : Int32) st) (fun v5 => bnd (f_R_ridgeOf κ a0 x1 x2 (2 : Int32) st) (fun v6 => bnd (f_R_ridgeOf κ a0 x1 x2 (3 : Int32) st) (fun v7 => if (wi ((v5 : Int32).toInt64) ((v6 : Int32).toInt64) ((v7 : Int32).toInt64)) = 0 then j8 else some (1 : Int32)))) else j8))))
theorem t_R_goesThrough {κ : Ko} {F : Int32 → AS → Prop} {a0 : Nat} {x1 : Int32} {x2 : Int32} {x3 : Int32} {x4 : Int32} {st : AS} {v : Int32} (l_a0 : ly κ a0 = (12, 36)) (h : f_R_goesThrough κ a0 x1 x2 x3 x4 st = some v) (k : F v st) : C κ M_R_goesThrough [.ref a0, .int x1, .int x2, .int x3, .int x4] st (RI F) := by
  unfold f_R_goesThrough at h
  refine e_R_goesThrough ?_
  obtain ⟨v1, h9, h⟩ := bnd_some h
  refine b_R_goesThrough_0 (l_a0 := l_a0) (k1 := t_R_ridgeOf l_a0 h9 ?_)
  obtain ⟨v2, h10, h⟩ := bnd_some h
  refine b_R_goesThrough_7 (l_a0 := l_a0) (k1 := t_R_ridgeOf l_a0 h10 ?_)
  obtain ⟨j8, hdj8, h⟩ := jn_some h
  have hj8 : j8 = some v → V κ M_R_goesThrough (RI F) 71 [none, none, none, none, none] [] st := by
    intro h
    rw [hdj8] at h
    exact b_R_goesThrough_71  (k1 := lfIP h k)
  clear hdj8
  refine b_R_goesThrough_14  (k1 := fun e11 => ?_) (k2 := fun e11 => ?_)
  · replace h := if_t e11 h
    exact hj8  h
  · replace h := if_f e11 h
    obtain ⟨v3, h12, h⟩ := bnd_some h
    refine b_R_goesThrough_17 (l_a0 := l_a0) (k1 := t_R_ridgeOf l_a0 h12 ?_)
    obtain ⟨v4, h13, h⟩ := bnd_some h
    refine b_R_goesThrough_24 (l_a0 := l_a0) (k1 := t_R_ridgeOf l_a0 h13 ?_)
    refine b_R_goesThrough_34  (k1 := fun e14 => ?_) (k2 := fun e14 => ?_)
    · replace h := if_f e14 h
      exact hj8  h
    · replace h := if_t e14 h
      obtain ⟨v5, h15, h⟩ := bnd_some h
      refine b_R_goesThrough_37 (l_a0 := l_a0) (k1 := t_R_ridgeOf l_a0 h15 ?_)
      obtain ⟨v6, h16, h⟩ := bnd_some h
      refine b_R_goesThrough_44 (l_a0 := l_a0) (k1 := t_R_ridgeOf l_a0 h16 ?_)
      obtain ⟨v7, h17, h⟩ := bnd_some h
      refine b_R_goesThrough_52 (l_a0 := l_a0) (k1 := t_R_ridgeOf l_a0 h17 ?_)
      refine b_R_goesThrough_60  (k1 := t_R_in  rfl ?_)
      refine b_R_goesThrough_64  (k1 := fun e18 => ?_) (k2 := fun e18 => ?_)
      · replace h := if_t e18 h
        exact hj8  h
      · replace h := if_f e18 h
        exact b_R_goesThrough_67  (k1 := lfIP h k)
noncomputable def L_R_isLoose_24 (κ : Ko) (st : AS) : Nat → Nat → Int32 → Int32 → Int32 → Int32 → Option Int32
  | 0, _, _, _, _, _ => none
  | d + 1, a0, x1, x2, x3, x4 => bnd (f_R_sheetOf κ a0 x1 (7 : Int32) st) (fun v3 => if v3 ≤ x4 then some (1 : Int32) else jn (L_R_isLoose_24 κ st  d a0 x1 x2 x3 (x4 + 1)) fun j6 => grd (vp_in x4 400) (if (gi st (a0 + 15) (x4 : Int32).toNatClampNeg) = 0 then j6 else bnd (f_R_goesThrough κ a0 x1 x4 x2 x3 st) (fun v5 => if v5 = 0 then j6 else some (0 : Int32))))
noncomputable def f_R_isLoose (κ : Ko) (a0 : Nat) (x1 : Int32) (x2 : Int32) (x3 : Int32) (st : AS) : Option Int32 := jn (some (0 : Int32)) fun j12 => grd (vp_in x2 400) (if (gi st (a0 + 15) (x2 : Int32).toNatClampNeg) = 0 then j12 else bnd (f_R_isEdgeEnd κ a0 x1 x2 x3 st) (fun v2 => if v2 = 0 then L_R_isLoose_24 κ st  FU a0 x1 x2 x3 (0 : Int32) else j12))
theorem l_R_isLoose_24 {κ : Ko} {F : Int32 → AS → Prop} {v : Int32} {st : AS} (k : F v st) : ∀ (d : Nat) (a0 : Nat) (x1 : Int32) (x2 : Int32) (x3 : Int32) (x4 : Int32), ly κ a0 = (12, 36) → L_R_isLoose_24 κ st  d a0 x1 x2 x3 x4 = some v → V κ M_R_isLoose (RI F) 24 [some (.ref a0), some (.int x1), some (.int x2), some (.int x3), some (.int x4)] [] st := by
  intro d
  induction d with
  | zero =>
    intro a0 x1 x2 x3 x4 l_a0 h
    exact nn_some h
  | succ d ih =>
    intro a0 x1 x2 x3 x4 l_a0 h
    rw [L_R_isLoose_24] at h
    obtain ⟨v3, h7, h⟩ := bnd_some h
    refine b_R_isLoose_24 (l_a0 := l_a0) (k1 := t_R_sheetOf l_a0 h7 ?_)
    refine b_R_isLoose_33  (k1 := fun e8 => ?_) (k2 := fun e8 => ?_)
    · replace h := if_t e8 h
      exact b_R_isLoose_66  (k1 := lfIP h k)
    · replace h := if_f e8 h
      obtain ⟨j6, hdj6, h⟩ := jn_some h
      have hj6 : j6 = some v → V κ M_R_isLoose (RI F) 60 [some (.ref a0), some (.int x1), some (.int x2), some (.int x3), some (.int x4)] [] st := by
        intro h
        rw [hdj6] at h
        refine b_R_isLoose_60  (k1 := ?_)
        exact ih _ _ _ _ _ l_a0 h
      clear hdj6
      obtain ⟨h4, h⟩ := grd_some h
      refine b_R_isLoose_36 (l_a0 := l_a0) (b1 := h4) (k2 := fun e9 => ?_) (k3 := fun e9 => ?_)
      · replace h := if_t e9 h
        exact hj6  h
      · replace h := if_f e9 h
        obtain ⟨v5, h10, h⟩ := bnd_some h
        refine b_R_isLoose_46 (l_a0 := l_a0) (k1 := t_R_goesThrough l_a0 h10 ?_)
        refine b_R_isLoose_55  (k1 := fun e11 => ?_) (k2 := fun e11 => ?_)
        · replace h := if_t e11 h
          exact hj6  h
        · replace h := if_f e11 h
          exact b_R_isLoose_58  (k1 := lfIP h k)
theorem t_R_isLoose {κ : Ko} {F : Int32 → AS → Prop} {a0 : Nat} {x1 : Int32} {x2 : Int32} {x3 : Int32} {st : AS} {v : Int32} (l_a0 : ly κ a0 = (12, 36)) (h : f_R_isLoose κ a0 x1 x2 x3 st = some v) (k : F v st) : C κ M_R_isLoose [.ref a0, .int x1, .int x2, .int x3] st (RI F) := by
  unfold f_R_isLoose at h
  refine e_R_isLoose ?_
  obtain ⟨j12, hdj12, h⟩ := jn_some h
  have hj12 : j12 = some v → V κ M_R_isLoose (RI F) 19 [none, none, none, none, none] [] st := by
    intro h
    rw [hdj12] at h
    exact b_R_isLoose_19  (k1 := lfIP h k)
  clear hdj12
  obtain ⟨h1, h⟩ := grd_some h
  refine b_R_isLoose_0 (l_a0 := l_a0) (b1 := h1) (k2 := fun e13 => ?_) (k3 := fun e13 => ?_)
  · replace h := if_t e13 h
    exact hj12  h
  · replace h := if_f e13 h
    obtain ⟨v2, h14, h⟩ := bnd_some h
    refine b_R_isLoose_9 (l_a0 := l_a0) (k1 := t_R_isEdgeEnd l_a0 h14 ?_)
    refine b_R_isLoose_16  (k1 := fun e15 => ?_) (k2 := fun e15 => ?_)
    · replace h := if_t e15 h
      refine b_R_isLoose_21  (k1 := ?_)
      refine l_R_isLoose_24 k FU _ _ _ _ _ l_a0 h
    · replace h := if_f e15 h
      exact hj12  h
noncomputable def L_R_seenLong_4 (κ : Ko) (st : AS) : Nat → Nat → Int32 → Int32 → Int32 → Option Int32
  | 0, _, _, _, _ => none
  | d + 1, a0, x1, x2, x3 => bnd (f_R_sheetOf κ a0 x1 (7 : Int32) st) (fun v1 => if v1 ≤ x3 then some x2 else grd (vp_in x3 400) (if (gi st (a0 + 15) (x3 : Int32).toNatClampNeg) = 0 then L_R_seenLong_4 κ st  d a0 x1 (x2 + 0) (x3 + 1) else bnd (f_R_longOf κ a0 x1 x3 st) (fun v3 => L_R_seenLong_4 κ st  d a0 x1 (x2 + v3) (x3 + 1))))
noncomputable def f_R_seenLong (κ : Ko) (a0 : Nat) (x1 : Int32) (st : AS) : Option Int32 := L_R_seenLong_4 κ st  FU a0 x1 (0 : Int32) (0 : Int32)
theorem l_R_seenLong_4 {κ : Ko} {F : Int32 → AS → Prop} {v : Int32} {st : AS} (k : F v st) : ∀ (d : Nat) (a0 : Nat) (x1 : Int32) (x2 : Int32) (x3 : Int32), ly κ a0 = (12, 36) → L_R_seenLong_4 κ st  d a0 x1 x2 x3 = some v → V κ M_R_seenLong (RI F) 4 [some (.ref a0), some (.int x1), some (.int x2), some (.int x3)] [] st := by
  intro d
  induction d with
  | zero =>
    intro a0 x1 x2 x3 l_a0 h
    exact nn_some h
  | succ d ih =>
    intro a0 x1 x2 x3 l_a0 h
    rw [L_R_seenLong_4] at h
    obtain ⟨v1, h4, h⟩ := bnd_some h
    refine b_R_seenLong_4 (l_a0 := l_a0) (k1 := t_R_sheetOf l_a0 h4 ?_)
    refine b_R_seenLong_12  (k1 := fun e5 => ?_) (k2 := fun e5 => ?_)
    · replace h := if_t e5 h
      exact b_R_seenLong_43  (k1 := lfIP h k)
    · replace h := if_f e5 h
      obtain ⟨h2, h⟩ := grd_some h
      refine b_R_seenLong_15 (l_a0 := l_a0) (b1 := h2) (k2 := fun e6 => ?_) (k3 := fun e6 => ?_)
      · replace h := if_t e6 h
        refine b_R_seenLong_34  (k1 := ?_)
        exact ih _ _ _ _ l_a0 h
      · replace h := if_f e6 h
        obtain ⟨v3, h7, h⟩ := bnd_some h
        refine b_R_seenLong_25 (l_a0 := l_a0) (k1 := t_R_longOf l_a0 h7 ?_)
        refine b_R_seenLong_31  (k1 := ?_)
        exact ih _ _ _ _ l_a0 h
theorem t_R_seenLong {κ : Ko} {F : Int32 → AS → Prop} {a0 : Nat} {x1 : Int32} {st : AS} {v : Int32} (l_a0 : ly κ a0 = (12, 36)) (h : f_R_seenLong κ a0 x1 st = some v) (k : F v st) : C κ M_R_seenLong [.ref a0, .int x1] st (RI F) := by
  unfold f_R_seenLong at h
  refine e_R_seenLong ?_
  refine b_R_seenLong_0  (k1 := ?_)
  refine l_R_seenLong_4 k FU _ _ _ _ l_a0 h
noncomputable def L_R_seen_43 (κ : Ko) (k_121 : Nat → Int32 → Int32 → Int32 → AS → Option (Int32 × AS)) : Nat → Nat → Int32 → Int32 → Int32 → Int32 → AS → Option (Int32 × AS)
  | 0, _, _, _, _, _, _ => none
  | d + 1, a0, x2, x3, x4, x5, st => bnd (f_R_sheetOf κ a0 x2 (7 : Int32) st) (fun v3 => if v3 ≤ x5 then k_121 a0 x2 x3 x4 st else if x3 = 0 then grd (vp_in x5 400) (if (gi st (a0 + 15) (x5 : Int32).toNatClampNeg) = 0 then L_R_seen_43 κ k_121 d a0 x2 x3 (x4 + 0) (x5 + 1) st else L_R_seen_43 κ k_121 d a0 x2 x3 (x4 + 1) (x5 + 1) st) else bnd (f_R_isLoose κ a0 x2 x5 (0 : Int32) st) (fun v4 => bnd (f_R_isLoose κ a0 x2 x5 (1 : Int32) st) (fun v5 => L_R_seen_43 κ k_121 d a0 x2 x3 (if v5 = 0 then x4 + ((if v4 = 0 then (0 : Int32) else (1 : Int32) : Int32) + 0) else x4 + ((if v4 = 0 then (0 : Int32) else (1 : Int32) : Int32) + 1) : Int32) (x5 + 1) st)))
noncomputable def f_R_seen (κ : Ko) (a0 : Nat) (x1 : Int32) (x2 : Int32) (x3 : Int32) (st : AS) : Option (Int32 × AS) := bnd (f_R_isText κ a0 (2 : Int32) x1 st) (fun v1 => jn (some (((-1) : Int32), st)) fun j26 => if v1 = 0 then j26 else if (f_R_isSheet κ a0 x2 st) = 0 then j26 else if (wi ((x3 : Int32).toInt64) (0 : Int64) (2 : Int64)) = 0 then j26 else bnd (f_R_sees κ a0 x1 x2 st) (fun s2 => L_R_seen_43 κ (fun (v19 : Nat) (v21 : Int32) (v22 : Int32) (v23 : Int32) (s24 : AS) => if v22 = 1 then bnd (f_R_seenLong κ v19 v21 s24) (fun v25 => some (v25, s24)) else some (v23, s24)) FU a0 x2 x3 (0 : Int32) (0 : Int32) s2))
theorem l_R_seen_43 {κ : Ko} {F : Int32 → AS → Prop} {v : Int32} {s' : AS} (k : F v s') {k_121 : Nat → Int32 → Int32 → Int32 → AS → Option (Int32 × AS)} (hk_121 : ∀ (a0 : Nat) (x2 : Int32) (x3 : Int32) (x4 : Int32) (st : AS), ly κ a0 = (12, 36) → k_121 a0 x2 x3 x4 st = some (v, s') → V κ M_R_seen (RI F) 121 [some (.ref a0), none, some (.int x2), some (.int x3), some (.int x4), none] [] st) : ∀ (d : Nat) (a0 : Nat) (x2 : Int32) (x3 : Int32) (x4 : Int32) (x5 : Int32) (st : AS), ly κ a0 = (12, 36) → L_R_seen_43 κ k_121 d a0 x2 x3 x4 x5 st = some (v, s') → V κ M_R_seen (RI F) 43 [some (.ref a0), none, some (.int x2), some (.int x3), some (.int x4), some (.int x5)] [] st := by
  intro d
  induction d with
  | zero =>
    intro a0 x2 x3 x4 x5 st l_a0 h
    exact nn_some h
  | succ d ih =>
    intro a0 x2 x3 x4 x5 st l_a0 h
    rw [L_R_seen_43] at h
    obtain ⟨v3, h7, h⟩ := bnd_some h
    refine b_R_seen_43 (l_a0 := l_a0) (k1 := t_R_sheetOf l_a0 h7 ?_)
    refine b_R_seen_52  (k1 := fun e8 => ?_) (k2 := fun e8 => ?_)
    · replace h := if_t e8 h
      exact hk_121 _ _ _ _ _ l_a0 h
    · replace h := if_f e8 h
      refine b_R_seen_55  (k1 := fun e9 => ?_) (k2 := fun e9 => ?_)
      · replace h := if_f e9 h
        obtain ⟨v4, h10, h⟩ := bnd_some h
        refine b_R_seen_79 (l_a0 := l_a0) (k1 := t_R_isLoose l_a0 h10 ?_)
        have K12 : V κ M_R_seen (RI F) 95 [some (.ref a0), none, some (.int x2), some (.int x3), none, some (.int x5)] [.int (if v4 = 0 then (0 : Int32) else (1 : Int32) : Int32), .int x4] st := by
          obtain ⟨v5, h13, h⟩ := bnd_some h
          refine b_R_seen_95 (l_a0 := l_a0) (k1 := t_R_isLoose l_a0 h13 ?_)
          have K15 : V κ M_R_seen (RI F) 43 [some (.ref a0), none, some (.int x2), some (.int x3), some (.int (if v5 = 0 then x4 + ((if v4 = 0 then (0 : Int32) else (1 : Int32) : Int32) + 0) else x4 + ((if v4 = 0 then (0 : Int32) else (1 : Int32) : Int32) + 1) : Int32)), some (.int (x5 + 1))] [] st := by
            exact ih _ _ _ _ _ _ l_a0 h
          refine b_R_seen_103  (k1 := fun e16 => ?_) (k2 := fun e16 => ?_)
          · refine b_R_seen_110  (k1 := ?_)
            exact (ite_t (P := fun z => V κ M_R_seen (RI F) 43 [some (.ref a0), none, some (.int x2), some (.int x3), some (.int z), some (.int (x5 + 1))] [] st) e16 K15)
          · refine b_R_seen_106  (k1 := ?_)
            exact (ite_f (P := fun z => V κ M_R_seen (RI F) 43 [some (.ref a0), none, some (.int x2), some (.int x3), some (.int z), some (.int (x5 + 1))] [] st) e16 K15)
        refine b_R_seen_87  (k1 := fun e17 => ?_) (k2 := fun e17 => ?_)
        · refine b_R_seen_94  (k1 := ?_)
          exact (ite_t (P := fun z => V κ M_R_seen (RI F) 95 [some (.ref a0), none, some (.int x2), some (.int x3), none, some (.int x5)] [.int z, .int x4] st) e17 K12)
        · refine b_R_seen_90  (k1 := ?_)
          exact (ite_f (P := fun z => V κ M_R_seen (RI F) 95 [some (.ref a0), none, some (.int x2), some (.int x3), none, some (.int x5)] [.int z, .int x4] st) e17 K12)
      · replace h := if_t e9 h
        obtain ⟨h6, h⟩ := grd_some h
        refine b_R_seen_61 (l_a0 := l_a0) (b1 := h6) (k2 := fun e18 => ?_) (k3 := fun e18 => ?_)
        · replace h := if_t e18 h
          refine b_R_seen_75  (k1 := ?_)
          exact ih _ _ _ _ _ _ l_a0 h
        · replace h := if_f e18 h
          refine b_R_seen_71  (k1 := ?_)
          exact ih _ _ _ _ _ _ l_a0 h
theorem t_R_seen {κ : Ko} {F : Int32 → AS → Prop} {a0 : Nat} {x1 : Int32} {x2 : Int32} {x3 : Int32} {st : AS} {v : Int32} {s' : AS} (l_a0 : ly κ a0 = (12, 36)) (h : f_R_seen κ a0 x1 x2 x3 st = some (v, s')) (k : F v s') : C κ M_R_seen [.ref a0, .int x1, .int x2, .int x3] st (RI F) := by
  unfold f_R_seen at h
  refine e_R_seen ?_
  obtain ⟨v1, h27, h⟩ := bnd_some h
  refine b_R_seen_0 (l_a0 := l_a0) (k1 := t_R_isText l_a0 h27 ?_)
  obtain ⟨j26, hdj26, h⟩ := jn_some h
  have hj26 : j26 = some (v, s') → V κ M_R_seen (RI F) 29 [none, none, none, none, none, none] [] st := by
    intro h
    rw [hdj26] at h
    exact b_R_seen_29  (k1 := lfI h k)
  clear hdj26
  refine b_R_seen_6  (k1 := fun e28 => ?_) (k2 := fun e28 => ?_)
  · replace h := if_t e28 h
    exact hj26  h
  · replace h := if_f e28 h
    refine b_R_seen_9 (l_a0 := l_a0) (k1 := t_R_isSheet l_a0 rfl ?_)
    refine b_R_seen_14  (k1 := fun e29 => ?_) (k2 := fun e29 => ?_)
    · replace h := if_t e29 h
      exact hj26  h
    · replace h := if_f e29 h
      refine b_R_seen_17  (k1 := t_R_in  rfl ?_)
      refine b_R_seen_26  (k1 := fun e30 => ?_) (k2 := fun e30 => ?_)
      · replace h := if_f e30 h
        obtain ⟨s2, h31, h⟩ := bnd_some h
        refine b_R_seen_31 (l_a0 := l_a0) (k1 := t_R_sees l_a0 h31 ?_)
        refine b_R_seen_37  (k1 := ?_)
        refine l_R_seen_43 k ?_ FU _ _ _ _ _ _ l_a0 h
        · intro v19 v21 v22 v23 s24 l20 h
          refine b_R_seen_121  (k1 := fun e32 => ?_) (k2 := fun e32 => ?_)
          · replace h := if_f e32 h
            exact b_R_seen_134  (k1 := lfI h k)
          · replace h := if_t e32 h
            obtain ⟨v25, h33, h⟩ := bnd_some h
            refine b_R_seen_126 (l_a0 := l20) (k1 := t_R_seenLong l20 h33 ?_)
            exact b_R_seen_131  (k1 := lfI h k)
      · replace h := if_t e30 h
        exact hj26  h
noncomputable def L_R_right_67 (κ : Ko) (k_150 : Nat → Int32 → Int32 → Int32 → Int32 → Int32 → Int32 → Int32 → AS → Option (Int32 × AS)) : Nat → Nat → Int32 → Int32 → Int32 → Int32 → Int32 → Int32 → Int32 → Int32 → AS → Option (Int32 × AS)
  | 0, _, _, _, _, _, _, _, _, _, _ => none
  | d + 1, a0, x2, x3, x4, x5, x6, x7, x8, x9, st => if x4 ≤ x9 then k_150 a0 x2 x3 x4 x5 x6 x7 x8 st else grd (vp_in x7 400) (if (gi st (a0 + 15) (x7 : Int32).toNatClampNeg) = 0 then if x8 = 0 then bnd (f_R_isLoose κ a0 x2 x9 (0 : Int32) st) (fun v5 => jn (L_R_right_67 κ k_150 d a0 x2 x3 x4 x5 x6 x7 (1 : Int32) (x9 + 1) st) fun j11 => jn (bnd (f_R_isLoose κ a0 x2 x9 (1 : Int32) st) (fun v8 => jn (L_R_right_67 κ k_150 d a0 x2 x3 x4 x5 x6 x7 (0 : Int32) (x9 + 1) st) fun j10 => if v8 = 0 then j10 else bnd (f_R_goesThrough κ a0 x2 x7 x9 (1 : Int32) st) (fun v9 => if v9 = 0 then j10 else j11))) fun j7 => if v5 = 0 then j7 else bnd (f_R_goesThrough κ a0 x2 x7 x9 (0 : Int32) st) (fun v6 => if v6 = 0 then j7 else j11)) else k_150 a0 x2 x3 x4 x5 x6 x7 x8 st else k_150 a0 x2 x3 x4 x5 x6 x7 x8 st)
noncomputable def L_R_right_54 (κ : Ko) (k_181 : Int32 → Int32 → Int32 → AS → Option (Int32 × AS)) : Nat → Nat → Int32 → Int32 → Int32 → Int32 → Int32 → Int32 → AS → Option (Int32 × AS)
  | 0, _, _, _, _, _, _, _, _ => none
  | d + 1, a0, x2, x3, x4, x5, x6, x7, st => if x4 ≤ x7 then k_181 x3 x5 x6 st else L_R_right_67 κ (fun (v23 : Nat) (v25 : Int32) (v26 : Int32) (v27 : Int32) (v28 : Int32) (v29 : Int32) (v30 : Int32) (v31 : Int32) (s32 : AS) => L_R_right_54 κ k_181 d v23 v25 v26 v27 (if v31 = 0 then v28 else (v28 + 1) : Int32) (if v31 = 0 then v29 else (if 0 ≤ v29 then v29 else v30 : Int32) : Int32) (v30 + 1) s32) FU a0 x2 x3 x4 x5 x6 x7 (0 : Int32) (0 : Int32) st
noncomputable def f_R_right (κ : Ko) (a0 : Nat) (x1 : Int32) (x2 : Int32) (x3 : Int32) (st : AS) : Option (Int32 × AS) := bnd (f_R_isText κ a0 (2 : Int32) x1 st) (fun v1 => jn (some (((-1) : Int32), st)) fun j42 => if v1 = 0 then j42 else if (f_R_isSheet κ a0 x2 st) = 0 then j42 else if (wi ((x3 : Int32).toInt64) (0 : Int64) (1 : Int64)) = 0 then j42 else bnd (f_R_sees κ a0 x1 x2 st) (fun s2 => bnd (f_R_sheetOf κ a0 x2 (7 : Int32) s2) (fun v3 => L_R_right_54 κ (fun (v38 : Int32) (v39 : Int32) (v40 : Int32) (s41 : AS) => some ((if v38 = 0 then v39 else v40 : Int32), s41)) FU a0 x2 x3 v3 (0 : Int32) ((-2) : Int32) (0 : Int32) s2)))
theorem l_R_right_67 {κ : Ko} {F : Int32 → AS → Prop} {v : Int32} {s' : AS} (k : F v s') {k_150 : Nat → Int32 → Int32 → Int32 → Int32 → Int32 → Int32 → Int32 → AS → Option (Int32 × AS)} (hk_150 : ∀ (a0 : Nat) (x2 : Int32) (x3 : Int32) (x4 : Int32) (x5 : Int32) (x6 : Int32) (x7 : Int32) (x8 : Int32) (st : AS), ly κ a0 = (12, 36) → k_150 a0 x2 x3 x4 x5 x6 x7 x8 st = some (v, s') → V κ M_R_right (RI F) 150 [some (.ref a0), none, some (.int x2), some (.int x3), some (.int x4), some (.int x5), some (.int x6), some (.int x7), some (.int x8), none] [] st) : ∀ (d : Nat) (a0 : Nat) (x2 : Int32) (x3 : Int32) (x4 : Int32) (x5 : Int32) (x6 : Int32) (x7 : Int32) (x8 : Int32) (x9 : Int32) (st : AS), ly κ a0 = (12, 36) → L_R_right_67 κ k_150 d a0 x2 x3 x4 x5 x6 x7 x8 x9 st = some (v, s') → V κ M_R_right (RI F) 67 [some (.ref a0), none, some (.int x2), some (.int x3), some (.int x4), some (.int x5), some (.int x6), some (.int x7), some (.int x8), some (.int x9)] [] st := by
  intro d
  induction d with
  | zero =>
    intro a0 x2 x3 x4 x5 x6 x7 x8 x9 st l_a0 h
    exact nn_some h
  | succ d ih =>
    intro a0 x2 x3 x4 x5 x6 x7 x8 x9 st l_a0 h
    rw [L_R_right_67] at h
    refine b_R_right_67  (k1 := fun e12 => ?_) (k2 := fun e12 => ?_)
    · replace h := if_t e12 h
      exact hk_150 _ _ _ _ _ _ _ _ _ l_a0 h
    · replace h := if_f e12 h
      obtain ⟨h4, h⟩ := grd_some h
      refine b_R_right_74 (l_a0 := l_a0) (b1 := h4) (k2 := fun e13 => ?_) (k3 := fun e13 => ?_)
      · replace h := if_f e13 h
        exact hk_150 _ _ _ _ _ _ _ _ _ l_a0 h
      · replace h := if_t e13 h
        refine b_R_right_84  (k1 := fun e14 => ?_) (k2 := fun e14 => ?_)
        · replace h := if_f e14 h
          exact hk_150 _ _ _ _ _ _ _ _ _ l_a0 h
        · replace h := if_t e14 h
          obtain ⟨v5, h15, h⟩ := bnd_some h
          refine b_R_right_89 (l_a0 := l_a0) (k1 := t_R_isLoose l_a0 h15 ?_)
          obtain ⟨j11, hdj11, h⟩ := jn_some h
          have hj11 : j11 = some (v, s') → V κ M_R_right (RI F) 137 [some (.ref a0), none, some (.int x2), some (.int x3), some (.int x4), some (.int x5), some (.int x6), some (.int x7), none, some (.int x9)] [] st := by
            intro h
            rw [hdj11] at h
            refine b_R_right_137  (k1 := ?_)
            exact ih _ _ _ _ _ _ _ _ _ _ l_a0 h
          clear hdj11
          obtain ⟨j7, hdj7, h⟩ := jn_some h
          have hj7 : j7 = some (v, s') → V κ M_R_right (RI F) 113 [some (.ref a0), none, some (.int x2), some (.int x3), some (.int x4), some (.int x5), some (.int x6), some (.int x7), none, some (.int x9)] [] st := by
            intro h
            rw [hdj7] at h
            obtain ⟨v8, h16, h⟩ := bnd_some h
            refine b_R_right_113 (l_a0 := l_a0) (k1 := t_R_isLoose l_a0 h16 ?_)
            obtain ⟨j10, hdj10, h⟩ := jn_some h
            have hj10 : j10 = some (v, s') → V κ M_R_right (RI F) 141 [some (.ref a0), none, some (.int x2), some (.int x3), some (.int x4), some (.int x5), some (.int x6), some (.int x7), none, some (.int x9)] [] st := by
              intro h
              rw [hdj10] at h
              refine b_R_right_141  (k1 := ?_)
              exact ih _ _ _ _ _ _ _ _ _ _ l_a0 h
            clear hdj10
            refine b_R_right_121  (k1 := fun e17 => ?_) (k2 := fun e17 => ?_)
            · replace h := if_t e17 h
              exact hj10  h
            · replace h := if_f e17 h
              obtain ⟨v9, h18, h⟩ := bnd_some h
              refine b_R_right_124 (l_a0 := l_a0) (k1 := t_R_goesThrough l_a0 h18 ?_)
              refine b_R_right_134  (k1 := fun e19 => ?_) (k2 := fun e19 => ?_)
              · replace h := if_t e19 h
                exact hj10  h
              · replace h := if_f e19 h
                exact hj11  h
          clear hdj7
          refine b_R_right_97  (k1 := fun e20 => ?_) (k2 := fun e20 => ?_)
          · replace h := if_t e20 h
            exact hj7  h
          · replace h := if_f e20 h
            obtain ⟨v6, h21, h⟩ := bnd_some h
            refine b_R_right_100 (l_a0 := l_a0) (k1 := t_R_goesThrough l_a0 h21 ?_)
            refine b_R_right_110  (k1 := fun e22 => ?_) (k2 := fun e22 => ?_)
            · replace h := if_f e22 h
              exact hj11  h
            · replace h := if_t e22 h
              exact hj7  h
theorem l_R_right_54 {κ : Ko} {F : Int32 → AS → Prop} {v : Int32} {s' : AS} (k : F v s') {k_181 : Int32 → Int32 → Int32 → AS → Option (Int32 × AS)} (hk_181 : ∀ (x3 : Int32) (x5 : Int32) (x6 : Int32) (st : AS), k_181 x3 x5 x6 st = some (v, s') → V κ M_R_right (RI F) 181 [none, none, none, some (.int x3), none, some (.int x5), some (.int x6), none, none, none] [] st) : ∀ (d : Nat) (a0 : Nat) (x2 : Int32) (x3 : Int32) (x4 : Int32) (x5 : Int32) (x6 : Int32) (x7 : Int32) (st : AS), ly κ a0 = (12, 36) → L_R_right_54 κ k_181 d a0 x2 x3 x4 x5 x6 x7 st = some (v, s') → V κ M_R_right (RI F) 54 [some (.ref a0), none, some (.int x2), some (.int x3), some (.int x4), some (.int x5), some (.int x6), some (.int x7), none, none] [] st := by
  intro d
  induction d with
  | zero =>
    intro a0 x2 x3 x4 x5 x6 x7 st l_a0 h
    exact nn_some h
  | succ d ih =>
    intro a0 x2 x3 x4 x5 x6 x7 st l_a0 h
    rw [L_R_right_54] at h
    refine b_R_right_54  (k1 := fun e33 => ?_) (k2 := fun e33 => ?_)
    · replace h := if_t e33 h
      exact hk_181 _ _ _ _  h
    · replace h := if_f e33 h
      refine b_R_right_61  (k1 := ?_)
      refine l_R_right_67 k ?_ FU _ _ _ _ _ _ _ _ _ _ l_a0 h
      · intro v23 v25 v26 v27 v28 v29 v30 v31 s32 l24 h
        have K35 : V κ M_R_right (RI F) 54 [some (.ref v23), none, some (.int v25), some (.int v26), some (.int v27), some (.int (if v31 = 0 then v28 else (v28 + 1) : Int32)), some (.int (if v31 = 0 then v29 else (if 0 ≤ v29 then v29 else v30 : Int32) : Int32)), some (.int (v30 + 1)), none, none] [] s32 := by
          exact ih _ _ _ _ _ _ _ _ l24 h
        refine b_R_right_150  (k1 := fun e36 => ?_) (k2 := fun e36 => ?_)
        · refine b_R_right_158  (k1 := fun e37 => ?_) (k2 := fun e37 => ?_)
          · refine b_R_right_171  (k1 := ?_)
            exact (ite_t (P := fun z => V κ M_R_right (RI F) 54 [some (.ref v23), none, some (.int v25), some (.int v26), some (.int v27), some (.int (v28 + 1)), some (.int z), some (.int (v30 + 1)), none, none] [] s32) e37 (ite_f (P := fun z => V κ M_R_right (RI F) 54 [some (.ref v23), none, some (.int v25), some (.int v26), some (.int v27), some (.int (v28 + 1)), some (.int z), some (.int (v30 + 1)), none, none] [] s32) e36 (ite_f (P := fun z => V κ M_R_right (RI F) 54 [some (.ref v23), none, some (.int v25), some (.int v26), some (.int v27), some (.int z), some (.int (if v31 = 0 then v29 else (if 0 ≤ v29 then v29 else v30 : Int32) : Int32)), some (.int (v30 + 1)), none, none] [] s32) e36 K35)))
          · refine b_R_right_166  (k1 := ?_)
            exact (ite_f (P := fun z => V κ M_R_right (RI F) 54 [some (.ref v23), none, some (.int v25), some (.int v26), some (.int v27), some (.int (v28 + 1)), some (.int z), some (.int (v30 + 1)), none, none] [] s32) e37 (ite_f (P := fun z => V κ M_R_right (RI F) 54 [some (.ref v23), none, some (.int v25), some (.int v26), some (.int v27), some (.int (v28 + 1)), some (.int z), some (.int (v30 + 1)), none, none] [] s32) e36 (ite_f (P := fun z => V κ M_R_right (RI F) 54 [some (.ref v23), none, some (.int v25), some (.int v26), some (.int v27), some (.int z), some (.int (if v31 = 0 then v29 else (if 0 ≤ v29 then v29 else v30 : Int32) : Int32)), some (.int (v30 + 1)), none, none] [] s32) e36 K35)))
        · refine b_R_right_155  (k1 := ?_)
          exact (ite_t (P := fun z => V κ M_R_right (RI F) 54 [some (.ref v23), none, some (.int v25), some (.int v26), some (.int v27), some (.int v28), some (.int z), some (.int (v30 + 1)), none, none] [] s32) e36 (ite_t (P := fun z => V κ M_R_right (RI F) 54 [some (.ref v23), none, some (.int v25), some (.int v26), some (.int v27), some (.int z), some (.int (if v31 = 0 then v29 else (if 0 ≤ v29 then v29 else v30 : Int32) : Int32)), some (.int (v30 + 1)), none, none] [] s32) e36 K35))
theorem t_R_right {κ : Ko} {F : Int32 → AS → Prop} {a0 : Nat} {x1 : Int32} {x2 : Int32} {x3 : Int32} {st : AS} {v : Int32} {s' : AS} (l_a0 : ly κ a0 = (12, 36)) (h : f_R_right κ a0 x1 x2 x3 st = some (v, s')) (k : F v s') : C κ M_R_right [.ref a0, .int x1, .int x2, .int x3] st (RI F) := by
  unfold f_R_right at h
  refine e_R_right ?_
  obtain ⟨v1, h43, h⟩ := bnd_some h
  refine b_R_right_0 (l_a0 := l_a0) (k1 := t_R_isText l_a0 h43 ?_)
  obtain ⟨j42, hdj42, h⟩ := jn_some h
  have hj42 : j42 = some (v, s') → V κ M_R_right (RI F) 27 [none, none, none, none, none, none, none, none, none, none] [] st := by
    intro h
    rw [hdj42] at h
    exact b_R_right_27  (k1 := lfI h k)
  clear hdj42
  refine b_R_right_6  (k1 := fun e44 => ?_) (k2 := fun e44 => ?_)
  · replace h := if_t e44 h
    exact hj42  h
  · replace h := if_f e44 h
    refine b_R_right_9 (l_a0 := l_a0) (k1 := t_R_isSheet l_a0 rfl ?_)
    refine b_R_right_14  (k1 := fun e45 => ?_) (k2 := fun e45 => ?_)
    · replace h := if_t e45 h
      exact hj42  h
    · replace h := if_f e45 h
      refine b_R_right_17  (k1 := t_R_in  rfl ?_)
      refine b_R_right_24  (k1 := fun e46 => ?_) (k2 := fun e46 => ?_)
      · replace h := if_f e46 h
        obtain ⟨s2, h47, h⟩ := bnd_some h
        refine b_R_right_29 (l_a0 := l_a0) (k1 := t_R_sees l_a0 h47 ?_)
        obtain ⟨v3, h48, h⟩ := bnd_some h
        refine b_R_right_35 (l_a0 := l_a0) (k1 := t_R_sheetOf l_a0 h48 ?_)
        refine b_R_right_42  (k1 := ?_)
        refine l_R_right_54 k ?_ FU _ _ _ _ _ _ _ _ l_a0 h
        · intro v38 v39 v40 s41 h
          have K50 : (RI F) (some (.int (if v38 = 0 then v39 else v40 : Int32))) s41 := lfI h k
          refine b_R_right_181  (k1 := fun e51 => ?_) (k2 := fun e51 => ?_)
          · exact b_R_right_190  (k1 := (ite_f (P := fun z => (RI F) (some (.int z)) s41) e51 K50))
          · exact b_R_right_185  (k1 := (ite_t (P := fun z => (RI F) (some (.int z)) s41) e51 K50))
      · replace h := if_t e46 h
        exact hj42  h
noncomputable def L_R_often_43 (κ : Ko) : Nat → Nat → Int32 → Int32 → Int32 → AS → Option (Int32 × AS)
  | 0, _, _, _, _, _ => none
  | d + 1, a0, x3, x4, x5, st => bnd (f_R_sheetOf κ a0 x3 (5 : Int32) st) (fun v4 => if v4 < x5 then some (((-2) : Int32), st) else bnd (f_R_cameIn κ a0 x3 (0 : Int32) x5 (0 : Int32) st) (fun v5 => if v5 < x4 then L_R_often_43 κ  d a0 x3 x4 (x5 + 1) st else some (x5, st)))
noncomputable def f_R_often (κ : Ko) (a0 : Nat) (x1 : Int32) (x2 : Int32) (x3 : Int32) (st : AS) : Option (Int32 × AS) := bnd (f_R_isText κ a0 (2 : Int32) x1 st) (fun v1 => jn (some (((-1) : Int32), st)) fun j10 => if v1 = 0 then j10 else if (f_R_isSheet κ a0 x2 st) = 0 then j10 else if (f_R_isSheet κ a0 x3 st) = 0 then j10 else bnd (f_R_sees κ a0 x1 x2 st) (fun s2 => bnd (f_R_seenLong κ a0 x2 s2) (fun v3 => L_R_often_43 κ  FU a0 x3 v3 (0 : Int32) s2)))
theorem l_R_often_43 {κ : Ko} {F : Int32 → AS → Prop} {v : Int32} {s' : AS} (k : F v s') : ∀ (d : Nat) (a0 : Nat) (x3 : Int32) (x4 : Int32) (x5 : Int32) (st : AS), ly κ a0 = (12, 36) → L_R_often_43 κ  d a0 x3 x4 x5 st = some (v, s') → V κ M_R_often (RI F) 43 [some (.ref a0), none, none, some (.int x3), some (.int x4), some (.int x5)] [] st := by
  intro d
  induction d with
  | zero =>
    intro a0 x3 x4 x5 st l_a0 h
    exact nn_some h
  | succ d ih =>
    intro a0 x3 x4 x5 st l_a0 h
    rw [L_R_often_43] at h
    obtain ⟨v4, h6, h⟩ := bnd_some h
    refine b_R_often_43 (l_a0 := l_a0) (k1 := t_R_sheetOf l_a0 h6 ?_)
    refine b_R_often_51  (k1 := fun e7 => ?_) (k2 := fun e7 => ?_)
    · replace h := if_t e7 h
      exact b_R_often_77  (k1 := lfI h k)
    · replace h := if_f e7 h
      obtain ⟨v5, h8, h⟩ := bnd_some h
      refine b_R_often_54 (l_a0 := l_a0) (k1 := t_R_cameIn l_a0 h8 ?_)
      refine b_R_often_63  (k1 := fun e9 => ?_) (k2 := fun e9 => ?_)
      · replace h := if_t e9 h
        refine b_R_often_71  (k1 := ?_)
        exact ih _ _ _ _ _ l_a0 h
      · replace h := if_f e9 h
        exact b_R_often_68  (k1 := lfI h k)
theorem t_R_often {κ : Ko} {F : Int32 → AS → Prop} {a0 : Nat} {x1 : Int32} {x2 : Int32} {x3 : Int32} {st : AS} {v : Int32} {s' : AS} (l_a0 : ly κ a0 = (12, 36)) (h : f_R_often κ a0 x1 x2 x3 st = some (v, s')) (k : F v s') : C κ M_R_often [.ref a0, .int x1, .int x2, .int x3] st (RI F) := by
  unfold f_R_often at h
  refine e_R_often ?_
  obtain ⟨v1, h11, h⟩ := bnd_some h
  refine b_R_often_0 (l_a0 := l_a0) (k1 := t_R_isText l_a0 h11 ?_)
  obtain ⟨j10, hdj10, h⟩ := jn_some h
  have hj10 : j10 = some (v, s') → V κ M_R_often (RI F) 25 [none, none, none, none, none, none] [] st := by
    intro h
    rw [hdj10] at h
    exact b_R_often_25  (k1 := lfI h k)
  clear hdj10
  refine b_R_often_6  (k1 := fun e12 => ?_) (k2 := fun e12 => ?_)
  · replace h := if_t e12 h
    exact hj10  h
  · replace h := if_f e12 h
    refine b_R_often_9 (l_a0 := l_a0) (k1 := t_R_isSheet l_a0 rfl ?_)
    refine b_R_often_14  (k1 := fun e13 => ?_) (k2 := fun e13 => ?_)
    · replace h := if_t e13 h
      exact hj10  h
    · replace h := if_f e13 h
      refine b_R_often_17 (l_a0 := l_a0) (k1 := t_R_isSheet l_a0 rfl ?_)
      refine b_R_often_22  (k1 := fun e14 => ?_) (k2 := fun e14 => ?_)
      · replace h := if_f e14 h
        obtain ⟨s2, h15, h⟩ := bnd_some h
        refine b_R_often_27 (l_a0 := l_a0) (k1 := t_R_sees l_a0 h15 ?_)
        obtain ⟨v3, h16, h⟩ := bnd_some h
        refine b_R_often_33 (l_a0 := l_a0) (k1 := t_R_seenLong l_a0 h16 ?_)
        refine b_R_often_38  (k1 := ?_)
        refine l_R_often_43 k FU _ _ _ _ _ l_a0 h
      · replace h := if_t e14 h
        exact hj10  h
noncomputable def L_R_marks_2 (κ : Ko) (k_21 : Nat → Int32 → AS → Option AS) : Nat → Nat → Int32 → Int32 → AS → Option AS
  | 0, _, _, _, _ => none
  | d + 1, a0, x1, x2, st => if 40401 ≤ x2 then k_21 a0 x1 st else grd (vp_in x2 40401) (L_R_marks_2 κ k_21 d a0 x1 (x2 + 1) (ui st (a0 + 16) (x2 : Int32).toNatClampNeg 0))
noncomputable def L_R_marks_64 (κ : Ko) (k_221 : Nat → Int32 → Int32 → AS → Option AS) : Nat → Nat → Int32 → Int32 → Int32 → Int32 → Int32 → Int32 → AS → Option AS
  | 0, _, _, _, _, _, _, _, _ => none
  | d + 1, a0, x1, x2, x3, x4, x5, x6, st => if x5 < x6 then k_221 a0 x1 x2 st else jn (fun (v13 : Int32) => jn (fun (v16 : Int32) => jn (fun (v19 : Int32) => grd (vp_in (((201 : Int32) * v19) + v16) 40401) (grd (vp_in (((201 : Int32) * v19) + v16) 40401) (L_R_marks_64 κ k_221 d a0 x1 x2 x3 x4 x5 (x6 + 1) (ui st (a0 + 16) (((201 : Int32) * v19) + v16 : Int32).toNatClampNeg ((gi st (a0 + 16) (((201 : Int32) * v19) + v16 : Int32).toNatClampNeg) ||| ((((if x3 = 0 then (32 : Int32) else (64 : Int32) : Int32) ||| v13) ||| (if x6 ≤ x4 then (0 : Int32) else (if x3 = 0 then (1 : Int32) else (4 : Int32) : Int32) : Int32)) ||| (if x5 ≤ x6 then (0 : Int32) else (if x3 = 0 then (2 : Int32) else (8 : Int32) : Int32) : Int32))))))) fun j18 => if x3 = 0 then j18 x6 else bnd (f_R_ridgeOf κ a0 x1 x2 (1 : Int32) st) (fun v17 => j18 v17)) fun j15 => if x3 = 0 then bnd (f_R_ridgeOf κ a0 x1 x2 (1 : Int32) st) (fun v14 => j15 v14) else j15 x6) fun j12 => jn (j12 (16 : Int32)) fun j11 => if x6 = x4 then j11 else if x6 = x5 then j11 else j12 (0 : Int32)
noncomputable def L_R_marks_23 (κ : Ko) : Nat → Nat → Int32 → Int32 → AS → Option AS
  | 0, _, _, _, _ => none
  | d + 1, a0, x1, x2, st => bnd (f_R_sheetOf κ a0 x1 (7 : Int32) st) (fun v7 => if v7 ≤ x2 then some st else bnd (f_R_ridgeOf κ a0 x1 x2 (0 : Int32) st) (fun v8 => bnd (f_R_ridgeOf κ a0 x1 x2 (2 : Int32) st) (fun v9 => bnd (f_R_ridgeOf κ a0 x1 x2 (3 : Int32) st) (fun v10 => L_R_marks_64 κ (fun (v40 : Nat) (v42 : Int32) (v43 : Int32) (s44 : AS) => L_R_marks_23 κ  d v40 v42 (v43 + 1) s44) FU a0 x1 x2 v8 v9 v10 v9 st))))
noncomputable def f_R_marks (κ : Ko) (a0 : Nat) (x1 : Int32) (st : AS) : Option AS := L_R_marks_2 κ (fun (v3 : Nat) (v5 : Int32) (s6 : AS) => L_R_marks_23 κ  FU v3 v5 (0 : Int32) s6) FU a0 x1 (0 : Int32) st
theorem l_R_marks_2 {κ : Ko} {F : AS → Prop} {s' : AS} (k : F s') {k_21 : Nat → Int32 → AS → Option AS} (hk_21 : ∀ (a0 : Nat) (x1 : Int32) (st : AS), ly κ a0 = (12, 36) → k_21 a0 x1 st = some s' → V κ M_R_marks (RV F) 21 [some (.ref a0), some (.int x1), none, none, none, none, none, none, none, none] [] st) : ∀ (d : Nat) (a0 : Nat) (x1 : Int32) (x2 : Int32) (st : AS), ly κ a0 = (12, 36) → L_R_marks_2 κ k_21 d a0 x1 x2 st = some s' → V κ M_R_marks (RV F) 2 [some (.ref a0), some (.int x1), some (.int x2), none, none, none, none, none, none, none] [] st := by
  intro d
  induction d with
  | zero =>
    intro a0 x1 x2 st l_a0 h
    exact nn_some h
  | succ d ih =>
    intro a0 x1 x2 st l_a0 h
    rw [L_R_marks_2] at h
    refine b_R_marks_2  (k1 := fun e2 => ?_) (k2 := fun e2 => ?_)
    · replace h := if_t e2 h
      exact hk_21 _ _ _ l_a0 h
    · replace h := if_f e2 h
      obtain ⟨h1, h⟩ := grd_some h
      refine b_R_marks_8 (l_a0 := l_a0) (b1 := h1) (k2 := ?_)
      exact ih _ _ _ _ l_a0 h
theorem l_R_marks_64 {κ : Ko} {F : AS → Prop} {s' : AS} (k : F s') {k_221 : Nat → Int32 → Int32 → AS → Option AS} (hk_221 : ∀ (a0 : Nat) (x1 : Int32) (x2 : Int32) (st : AS), ly κ a0 = (12, 36) → k_221 a0 x1 x2 st = some s' → V κ M_R_marks (RV F) 221 [some (.ref a0), some (.int x1), some (.int x2), none, none, none, none, none, none, none] [] st) : ∀ (d : Nat) (a0 : Nat) (x1 : Int32) (x2 : Int32) (x3 : Int32) (x4 : Int32) (x5 : Int32) (x6 : Int32) (st : AS), ly κ a0 = (12, 36) → L_R_marks_64 κ k_221 d a0 x1 x2 x3 x4 x5 x6 st = some s' → V κ M_R_marks (RV F) 64 [some (.ref a0), some (.int x1), some (.int x2), some (.int x3), some (.int x4), some (.int x5), some (.int x6), none, none, none] [] st := by
  intro d
  induction d with
  | zero =>
    intro a0 x1 x2 x3 x4 x5 x6 st l_a0 h
    exact nn_some h
  | succ d ih =>
    intro a0 x1 x2 x3 x4 x5 x6 st l_a0 h
    rw [L_R_marks_64] at h
    refine b_R_marks_64  (k1 := fun e22 => ?_) (k2 := fun e22 => ?_)
    · replace h := if_t e22 h
      exact hk_221 _ _ _ _ l_a0 h
    · replace h := if_f e22 h
      have K24 : V κ M_R_marks (RV F) 82 [some (.ref a0), some (.int x1), some (.int x2), some (.int x3), some (.int x4), some (.int x5), some (.int x6), none, none, none] [.int (if x3 = 0 then (32 : Int32) else (64 : Int32) : Int32)] st := by
        obtain ⟨j12, hdj12, h⟩ := jn_some h
        have hj12 : ∀ (v13 : Int32), j12 v13 = some s' → V κ M_R_marks (RV F) 106 [some (.ref a0), some (.int x1), some (.int x2), some (.int x3), some (.int x4), some (.int x5), some (.int x6), none, none, none] [.int v13, .int (if x3 = 0 then (32 : Int32) else (64 : Int32) : Int32)] st := by
          intro v13 h
          rw [hdj12] at h
          have K26 : V κ M_R_marks (RV F) 131 [some (.ref a0), some (.int x1), some (.int x2), some (.int x3), some (.int x4), some (.int x5), some (.int x6), none, none, none] [.int (if x6 ≤ x4 then (0 : Int32) else (if x3 = 0 then (1 : Int32) else (4 : Int32) : Int32) : Int32), .int ((if x3 = 0 then (32 : Int32) else (64 : Int32) : Int32) ||| v13)] st := by
            have K28 : V κ M_R_marks (RV F) 157 [some (.ref a0), some (.int x1), some (.int x2), some (.int x3), some (.int x4), some (.int x5), some (.int x6), none, none, none] [.int (if x5 ≤ x6 then (0 : Int32) else (if x3 = 0 then (2 : Int32) else (8 : Int32) : Int32) : Int32), .int (((if x3 = 0 then (32 : Int32) else (64 : Int32) : Int32) ||| v13) ||| (if x6 ≤ x4 then (0 : Int32) else (if x3 = 0 then (1 : Int32) else (4 : Int32) : Int32) : Int32))] st := by
              obtain ⟨j15, hdj15, h⟩ := jn_some h
              have hj15 : ∀ (v16 : Int32), j15 v16 = some s' → V κ M_R_marks (RV F) 176 [some (.ref a0), some (.int x1), some (.int x2), some (.int x3), some (.int x4), some (.int x5), some (.int x6), some (.int ((((if x3 = 0 then (32 : Int32) else (64 : Int32) : Int32) ||| v13) ||| (if x6 ≤ x4 then (0 : Int32) else (if x3 = 0 then (1 : Int32) else (4 : Int32) : Int32) : Int32)) ||| (if x5 ≤ x6 then (0 : Int32) else (if x3 = 0 then (2 : Int32) else (8 : Int32) : Int32) : Int32))), none, none] [.int v16] st := by
                intro v16 h
                rw [hdj15] at h
                obtain ⟨j18, hdj18, h⟩ := jn_some h
                have hj18 : ∀ (v19 : Int32), j18 v19 = some s' → V κ M_R_marks (RV F) 194 [some (.ref a0), some (.int x1), some (.int x2), some (.int x3), some (.int x4), some (.int x5), some (.int x6), some (.int ((((if x3 = 0 then (32 : Int32) else (64 : Int32) : Int32) ||| v13) ||| (if x6 ≤ x4 then (0 : Int32) else (if x3 = 0 then (1 : Int32) else (4 : Int32) : Int32) : Int32)) ||| (if x5 ≤ x6 then (0 : Int32) else (if x3 = 0 then (2 : Int32) else (8 : Int32) : Int32) : Int32))), some (.int v16), none] [.int v19] st := by
                  intro v19 h
                  rw [hdj18] at h
                  obtain ⟨h20, h⟩ := grd_some h
                  obtain ⟨h21, h⟩ := grd_some h
                  refine b_R_marks_194 (l_a0 := l_a0) (b1 := h20) (b2 := h21) (k3 := ?_)
                  exact ih _ _ _ _ _ _ _ _ l_a0 h
                clear hdj18
                refine b_R_marks_176  (k1 := fun e29 => ?_) (k2 := fun e29 => ?_)
                · replace h := if_f e29 h
                  obtain ⟨v17, h30, h⟩ := bnd_some h
                  refine b_R_marks_187 (l_a0 := l_a0) (k1 := t_R_ridgeOf l_a0 h30 ?_)
                  exact hj18 _  h
                · replace h := if_t e29 h
                  refine b_R_marks_182  (k1 := ?_)
                  exact hj18 _  h
              clear hdj15
              refine b_R_marks_157  (k1 := fun e31 => ?_) (k2 := fun e31 => ?_)
              · replace h := if_f e31 h
                refine b_R_marks_174  (k1 := ?_)
                exact hj15 _  h
              · replace h := if_t e31 h
                obtain ⟨v14, h32, h⟩ := bnd_some h
                refine b_R_marks_164 (l_a0 := l_a0) (k1 := t_R_ridgeOf l_a0 h32 ?_)
                refine b_R_marks_171  (k1 := ?_)
                exact hj15 _  h
            refine b_R_marks_131  (k1 := fun e33 => ?_) (k2 := fun e33 => ?_)
            · refine b_R_marks_156  (k1 := ?_)
              exact (ite_t (P := fun z => V κ M_R_marks (RV F) 157 [some (.ref a0), some (.int x1), some (.int x2), some (.int x3), some (.int x4), some (.int x5), some (.int x6), none, none, none] [.int z, .int (((if x3 = 0 then (32 : Int32) else (64 : Int32) : Int32) ||| v13) ||| (if x6 ≤ x4 then (0 : Int32) else (if x3 = 0 then (1 : Int32) else (4 : Int32) : Int32) : Int32))] st) e33 K28)
            · refine b_R_marks_143  (k1 := fun e34 => ?_) (k2 := fun e34 => ?_)
              · refine b_R_marks_151  (k1 := ?_)
                exact (ite_f (P := fun z => V κ M_R_marks (RV F) 157 [some (.ref a0), some (.int x1), some (.int x2), some (.int x3), some (.int x4), some (.int x5), some (.int x6), none, none, none] [.int z, .int (((if x3 = 0 then (32 : Int32) else (64 : Int32) : Int32) ||| v13) ||| (if x6 ≤ x4 then (0 : Int32) else (if x3 = 0 then (1 : Int32) else (4 : Int32) : Int32) : Int32))] st) e34 (ite_f (P := fun z => V κ M_R_marks (RV F) 157 [some (.ref a0), some (.int x1), some (.int x2), some (.int x3), some (.int x4), some (.int x5), some (.int x6), none, none, none] [.int z, .int (((if x3 = 0 then (32 : Int32) else (64 : Int32) : Int32) ||| v13) ||| (if x6 ≤ x4 then (0 : Int32) else (if x3 = 0 then (1 : Int32) else (4 : Int32) : Int32) : Int32))] st) e33 K28))
              · refine b_R_marks_147  (k1 := ?_)
                exact (ite_t (P := fun z => V κ M_R_marks (RV F) 157 [some (.ref a0), some (.int x1), some (.int x2), some (.int x3), some (.int x4), some (.int x5), some (.int x6), none, none, none] [.int z, .int (((if x3 = 0 then (32 : Int32) else (64 : Int32) : Int32) ||| v13) ||| (if x6 ≤ x4 then (0 : Int32) else (if x3 = 0 then (1 : Int32) else (4 : Int32) : Int32) : Int32))] st) e34 (ite_f (P := fun z => V κ M_R_marks (RV F) 157 [some (.ref a0), some (.int x1), some (.int x2), some (.int x3), some (.int x4), some (.int x5), some (.int x6), none, none, none] [.int z, .int (((if x3 = 0 then (32 : Int32) else (64 : Int32) : Int32) ||| v13) ||| (if x6 ≤ x4 then (0 : Int32) else (if x3 = 0 then (1 : Int32) else (4 : Int32) : Int32) : Int32))] st) e33 K28))
          refine b_R_marks_106  (k1 := fun e35 => ?_) (k2 := fun e35 => ?_)
          · refine b_R_marks_130  (k1 := ?_)
            exact (ite_t (P := fun z => V κ M_R_marks (RV F) 131 [some (.ref a0), some (.int x1), some (.int x2), some (.int x3), some (.int x4), some (.int x5), some (.int x6), none, none, none] [.int z, .int ((if x3 = 0 then (32 : Int32) else (64 : Int32) : Int32) ||| v13)] st) e35 K26)
          · refine b_R_marks_118  (k1 := fun e36 => ?_) (k2 := fun e36 => ?_)
            · refine b_R_marks_126  (k1 := ?_)
              exact (ite_f (P := fun z => V κ M_R_marks (RV F) 131 [some (.ref a0), some (.int x1), some (.int x2), some (.int x3), some (.int x4), some (.int x5), some (.int x6), none, none, none] [.int z, .int ((if x3 = 0 then (32 : Int32) else (64 : Int32) : Int32) ||| v13)] st) e36 (ite_f (P := fun z => V κ M_R_marks (RV F) 131 [some (.ref a0), some (.int x1), some (.int x2), some (.int x3), some (.int x4), some (.int x5), some (.int x6), none, none, none] [.int z, .int ((if x3 = 0 then (32 : Int32) else (64 : Int32) : Int32) ||| v13)] st) e35 K26))
            · refine b_R_marks_122  (k1 := ?_)
              exact (ite_t (P := fun z => V κ M_R_marks (RV F) 131 [some (.ref a0), some (.int x1), some (.int x2), some (.int x3), some (.int x4), some (.int x5), some (.int x6), none, none, none] [.int z, .int ((if x3 = 0 then (32 : Int32) else (64 : Int32) : Int32) ||| v13)] st) e36 (ite_f (P := fun z => V κ M_R_marks (RV F) 131 [some (.ref a0), some (.int x1), some (.int x2), some (.int x3), some (.int x4), some (.int x5), some (.int x6), none, none, none] [.int z, .int ((if x3 = 0 then (32 : Int32) else (64 : Int32) : Int32) ||| v13)] st) e35 K26))
        clear hdj12
        obtain ⟨j11, hdj11, h⟩ := jn_some h
        have hj11 : j11 = some s' → V κ M_R_marks (RV F) 100 [some (.ref a0), some (.int x1), some (.int x2), some (.int x3), some (.int x4), some (.int x5), some (.int x6), none, none, none] [.int (if x3 = 0 then (32 : Int32) else (64 : Int32) : Int32)] st := by
          intro h
          rw [hdj11] at h
          refine b_R_marks_100  (k1 := ?_)
          exact hj12 _  h
        clear hdj11
        refine b_R_marks_82  (k1 := fun e37 => ?_) (k2 := fun e37 => ?_)
        · replace h := if_t e37 h
          exact hj11  h
        · replace h := if_f e37 h
          refine b_R_marks_93  (k1 := fun e38 => ?_) (k2 := fun e38 => ?_)
          · replace h := if_f e38 h
            refine b_R_marks_105  (k1 := ?_)
            exact hj12 _  h
          · replace h := if_t e38 h
            exact hj11  h
      refine b_R_marks_71  (k1 := fun e39 => ?_) (k2 := fun e39 => ?_)
      · refine b_R_marks_80  (k1 := ?_)
        exact (ite_f (P := fun z => V κ M_R_marks (RV F) 82 [some (.ref a0), some (.int x1), some (.int x2), some (.int x3), some (.int x4), some (.int x5), some (.int x6), none, none, none] [.int z] st) e39 K24)
      · refine b_R_marks_75  (k1 := ?_)
        exact (ite_t (P := fun z => V κ M_R_marks (RV F) 82 [some (.ref a0), some (.int x1), some (.int x2), some (.int x3), some (.int x4), some (.int x5), some (.int x6), none, none, none] [.int z] st) e39 K24)
theorem l_R_marks_23 {κ : Ko} {F : AS → Prop} {s' : AS} (k : F s') : ∀ (d : Nat) (a0 : Nat) (x1 : Int32) (x2 : Int32) (st : AS), ly κ a0 = (12, 36) → L_R_marks_23 κ  d a0 x1 x2 st = some s' → V κ M_R_marks (RV F) 23 [some (.ref a0), some (.int x1), some (.int x2), none, none, none, none, none, none, none] [] st := by
  intro d
  induction d with
  | zero =>
    intro a0 x1 x2 st l_a0 h
    exact nn_some h
  | succ d ih =>
    intro a0 x1 x2 st l_a0 h
    rw [L_R_marks_23] at h
    obtain ⟨v7, h45, h⟩ := bnd_some h
    refine b_R_marks_23 (l_a0 := l_a0) (k1 := t_R_sheetOf l_a0 h45 ?_)
    refine b_R_marks_31  (k1 := fun e46 => ?_) (k2 := fun e46 => ?_)
    · replace h := if_t e46 h
      exact b_R_marks_227  (k1 := lfV h k)
    · replace h := if_f e46 h
      obtain ⟨v8, h47, h⟩ := bnd_some h
      refine b_R_marks_34 (l_a0 := l_a0) (k1 := t_R_ridgeOf l_a0 h47 ?_)
      obtain ⟨v9, h48, h⟩ := bnd_some h
      refine b_R_marks_41 (l_a0 := l_a0) (k1 := t_R_ridgeOf l_a0 h48 ?_)
      obtain ⟨v10, h49, h⟩ := bnd_some h
      refine b_R_marks_49 (l_a0 := l_a0) (k1 := t_R_ridgeOf l_a0 h49 ?_)
      refine b_R_marks_58  (k1 := ?_)
      refine l_R_marks_64 k ?_ FU _ _ _ _ _ _ _ _ l_a0 h
      · intro v40 v42 v43 s44 l41 h
        refine b_R_marks_221  (k1 := ?_)
        exact ih _ _ _ _ l41 h
theorem t_R_marks {κ : Ko} {F : AS → Prop} {a0 : Nat} {x1 : Int32} {st : AS} {s' : AS} (l_a0 : ly κ a0 = (12, 36)) (h : f_R_marks κ a0 x1 st = some s') (k : F s') : C κ M_R_marks [.ref a0, .int x1] st (RV F) := by
  unfold f_R_marks at h
  refine e_R_marks ?_
  refine b_R_marks_0  (k1 := ?_)
  refine l_R_marks_2 k ?_ FU _ _ _ _ l_a0 h
  · intro v3 v5 s6 l4 h
    refine b_R_marks_21  (k1 := ?_)
    refine l_R_marks_23 k FU _ _ _ _ l4 h
noncomputable def f_R_isCorner (κ : Ko) (x0 : Int32) (st : AS) : Int32 := jn ((1 : Int32)) fun j1 => if (x0 &&& 16) = 0 then if (x0 &&& 96) = 96 then j1 else (0 : Int32) else j1
theorem t_R_isCorner {κ : Ko} {F : Int32 → AS → Prop} {x0 : Int32} {st : AS} {v : Int32} (h : f_R_isCorner κ x0 st = v) (k : F v st) : C κ M_R_isCorner [.int x0] st (RI F) := by
  unfold f_R_isCorner at h
  refine e_R_isCorner ?_
  obtain ⟨j1, hdj1, h⟩ := jn_some h
  have hj1 : j1 = v → V κ M_R_isCorner (RI F) 16 [none] [] st := by
    intro h
    rw [hdj1] at h
    exact b_R_isCorner_16  (k1 := lfIPT h k)
  clear hdj1
  refine b_R_isCorner_0  (k1 := fun e2 => ?_) (k2 := fun e2 => ?_)
  · replace h := if_f e2 h
    exact hj1  h
  · replace h := if_t e2 h
    refine b_R_isCorner_7  (k1 := fun e3 => ?_) (k2 := fun e3 => ?_)
    · replace h := if_f e3 h
      exact b_R_isCorner_20  (k1 := lfIPT h k)
    · replace h := if_t e3 h
      exact hj1  h
noncomputable def f_R_armsOf (κ : Ko) (x0 : Int32) (st : AS) : Int32 := ((((x0 &&& 1) + ((x0 >>> ((1 : Int32) &&& 31)) &&& 1)) + ((x0 >>> ((2 : Int32) &&& 31)) &&& 1)) + ((x0 >>> ((3 : Int32) &&& 31)) &&& 1))
theorem t_R_armsOf {κ : Ko} {F : Int32 → AS → Prop} {x0 : Int32} {st : AS} {v : Int32} (h : f_R_armsOf κ x0 st = v) (k : F v st) : C κ M_R_armsOf [.int x0] st (RI F) := by
  unfold f_R_armsOf at h
  refine e_R_armsOf ?_
  exact b_R_armsOf_0  (k1 := lfIPT h k)
noncomputable def L_R_cornersWith_24 (κ : Ko) (k_133 : Nat → Int32 → Int32 → Int32 → Int32 → AS → Option (Int32 × AS)) : Nat → Nat → Int32 → Int32 → Int32 → Int32 → Int32 → AS → Option (Int32 × AS)
  | 0, _, _, _, _, _, _, _ => none
  | d + 1, a0, x1, x2, x3, x4, x5, st => bnd (f_R_sheetOf κ a0 x1 (0 : Int32) st) (fun v3 => if v3 ≤ x5 then k_133 a0 x1 x2 x3 x4 st else grd (vp_in (((201 : Int32) * x4) + x5) 40401) (if (f_R_isCorner κ (gi st (a0 + 16) (((201 : Int32) * x4) + x5 : Int32).toNatClampNeg) st) = 0 then L_R_cornersWith_24 κ k_133 d a0 x1 x2 x3 x4 (x5 + 1) st else jn (fun (v8 : Int32) => L_R_cornersWith_24 κ k_133 d a0 x1 x2 (if v8 = 0 then x3 + 0 else x3 + 1 : Int32) x4 (x5 + 1) st) fun j7 => jn (j7 (1 : Int32)) fun j6 => if x2 = 0 then j6 else if (f_R_armsOf κ (gi st (a0 + 16) (((201 : Int32) * x4) + x5 : Int32).toNatClampNeg) st) = x2 then j6 else jn (j7 (0 : Int32)) fun j5 => if x2 = 5 then if ((gi st (a0 + 16) (((201 : Int32) * x4) + x5 : Int32).toNatClampNeg) &&& 15) = 15 then j5 else if ((gi st (a0 + 16) (((201 : Int32) * x4) + x5 : Int32).toNatClampNeg) &&& 15) = 3 then j5 else if ((gi st (a0 + 16) (((201 : Int32) * x4) + x5 : Int32).toNatClampNeg) &&& 15) = 12 then j5 else j6 else j5))
noncomputable def L_R_cornersWith_10 (κ : Ko) : Nat → Nat → Int32 → Int32 → Int32 → Int32 → AS → Option (Int32 × AS)
  | 0, _, _, _, _, _, _ => none
  | d + 1, a0, x1, x2, x3, x4, st => bnd (f_R_sheetOf κ a0 x1 (1 : Int32) st) (fun v2 => if v2 ≤ x4 then some (x3, st) else L_R_cornersWith_24 κ (fun (v21 : Nat) (v23 : Int32) (v24 : Int32) (v25 : Int32) (v26 : Int32) (s27 : AS) => L_R_cornersWith_10 κ  d v21 v23 v24 v25 (v26 + 1) s27) FU a0 x1 x2 x3 x4 (1 : Int32) st)
noncomputable def f_R_cornersWith (κ : Ko) (a0 : Nat) (x1 : Int32) (x2 : Int32) (st : AS) : Option (Int32 × AS) := bnd (f_R_marks κ a0 x1 st) (fun s1 => L_R_cornersWith_10 κ  FU a0 x1 x2 (0 : Int32) (1 : Int32) s1)
theorem l_R_cornersWith_24 {κ : Ko} {F : Int32 → AS → Prop} {v : Int32} {s' : AS} (k : F v s') {k_133 : Nat → Int32 → Int32 → Int32 → Int32 → AS → Option (Int32 × AS)} (hk_133 : ∀ (a0 : Nat) (x1 : Int32) (x2 : Int32) (x3 : Int32) (x4 : Int32) (st : AS), ly κ a0 = (12, 36) → k_133 a0 x1 x2 x3 x4 st = some (v, s') → V κ M_R_cornersWith (RI F) 133 [some (.ref a0), some (.int x1), some (.int x2), some (.int x3), some (.int x4), none, none, none, none] [] st) : ∀ (d : Nat) (a0 : Nat) (x1 : Int32) (x2 : Int32) (x3 : Int32) (x4 : Int32) (x5 : Int32) (st : AS), ly κ a0 = (12, 36) → L_R_cornersWith_24 κ k_133 d a0 x1 x2 x3 x4 x5 st = some (v, s') → V κ M_R_cornersWith (RI F) 24 [some (.ref a0), some (.int x1), some (.int x2), some (.int x3), some (.int x4), some (.int x5), none, none, none] [] st := by
  intro d
  induction d with
  | zero =>
    intro a0 x1 x2 x3 x4 x5 st l_a0 h
    exact nn_some h
  | succ d ih =>
    intro a0 x1 x2 x3 x4 x5 st l_a0 h
    rw [L_R_cornersWith_24] at h
    obtain ⟨v3, h9, h⟩ := bnd_some h
    refine b_R_cornersWith_24 (l_a0 := l_a0) (k1 := t_R_sheetOf l_a0 h9 ?_)
    refine b_R_cornersWith_32  (k1 := fun e10 => ?_) (k2 := fun e10 => ?_)
    · replace h := if_t e10 h
      exact hk_133 _ _ _ _ _ _ l_a0 h
    · replace h := if_f e10 h
      obtain ⟨h4, h⟩ := grd_some h
      refine b_R_cornersWith_35 (l_a0 := l_a0) (b1 := h4) (k2 := t_R_isCorner  rfl ?_)
      refine b_R_cornersWith_56  (k1 := fun e11 => ?_) (k2 := fun e11 => ?_)
      · replace h := if_f e11 h
        obtain ⟨j7, hdj7, h⟩ := jn_some h
        have hj7 : ∀ (v8 : Int32), j7 v8 = some (v, s') → V κ M_R_cornersWith (RI F) 112 [some (.ref a0), some (.int x1), some (.int x2), some (.int x3), some (.int x4), some (.int x5), none, none, none] [.int v8] st := by
          intro v8 h
          rw [hdj7] at h
          have K13 : V κ M_R_cornersWith (RI F) 24 [some (.ref a0), some (.int x1), some (.int x2), some (.int (if v8 = 0 then x3 + 0 else x3 + 1 : Int32)), some (.int x4), some (.int (x5 + 1)), none, none, none] [] st := by
            exact ih _ _ _ _ _ _ _ l_a0 h
          refine b_R_cornersWith_112  (k1 := fun e14 => ?_) (k2 := fun e14 => ?_)
          · refine b_R_cornersWith_124  (k1 := ?_)
            exact (ite_t (P := fun z => V κ M_R_cornersWith (RI F) 24 [some (.ref a0), some (.int x1), some (.int x2), some (.int z), some (.int x4), some (.int (x5 + 1)), none, none, none] [] st) e14 K13)
          · refine b_R_cornersWith_120  (k1 := ?_)
            exact (ite_f (P := fun z => V κ M_R_cornersWith (RI F) 24 [some (.ref a0), some (.int x1), some (.int x2), some (.int z), some (.int x4), some (.int (x5 + 1)), none, none, none] [] st) e14 K13)
        clear hdj7
        obtain ⟨j6, hdj6, h⟩ := jn_some h
        have hj6 : j6 = some (v, s') → V κ M_R_cornersWith (RI F) 107 [some (.ref a0), some (.int x1), some (.int x2), some (.int x3), some (.int x4), some (.int x5), none, none, none] [] st := by
          intro h
          rw [hdj6] at h
          refine b_R_cornersWith_107  (k1 := ?_)
          exact hj7 _  h
        clear hdj6
        refine b_R_cornersWith_62  (k1 := fun e15 => ?_) (k2 := fun e15 => ?_)
        · replace h := if_t e15 h
          exact hj6  h
        · replace h := if_f e15 h
          refine b_R_cornersWith_73  (k1 := t_R_armsOf  rfl ?_)
          refine b_R_cornersWith_78  (k1 := fun e16 => ?_) (k2 := fun e16 => ?_)
          · replace h := if_t e16 h
            exact hj6  h
          · replace h := if_f e16 h
            obtain ⟨j5, hdj5, h⟩ := jn_some h
            have hj5 : j5 = some (v, s') → V κ M_R_cornersWith (RI F) 111 [some (.ref a0), some (.int x1), some (.int x2), some (.int x3), some (.int x4), some (.int x5), none, none, none] [] st := by
              intro h
              rw [hdj5] at h
              refine b_R_cornersWith_111  (k1 := ?_)
              exact hj7 _  h
            clear hdj5
            refine b_R_cornersWith_82  (k1 := fun e17 => ?_) (k2 := fun e17 => ?_)
            · replace h := if_f e17 h
              exact hj5  h
            · replace h := if_t e17 h
              refine b_R_cornersWith_87  (k1 := fun e18 => ?_) (k2 := fun e18 => ?_)
              · replace h := if_t e18 h
                exact hj5  h
              · replace h := if_f e18 h
                refine b_R_cornersWith_94  (k1 := fun e19 => ?_) (k2 := fun e19 => ?_)
                · replace h := if_t e19 h
                  exact hj5  h
                · replace h := if_f e19 h
                  refine b_R_cornersWith_100  (k1 := fun e20 => ?_) (k2 := fun e20 => ?_)
                  · replace h := if_t e20 h
                    exact hj5  h
                  · replace h := if_f e20 h
                    exact hj6  h
      · replace h := if_t e11 h
        refine b_R_cornersWith_59  (k1 := ?_)
        exact ih _ _ _ _ _ _ _ l_a0 h
theorem l_R_cornersWith_10 {κ : Ko} {F : Int32 → AS → Prop} {v : Int32} {s' : AS} (k : F v s') : ∀ (d : Nat) (a0 : Nat) (x1 : Int32) (x2 : Int32) (x3 : Int32) (x4 : Int32) (st : AS), ly κ a0 = (12, 36) → L_R_cornersWith_10 κ  d a0 x1 x2 x3 x4 st = some (v, s') → V κ M_R_cornersWith (RI F) 10 [some (.ref a0), some (.int x1), some (.int x2), some (.int x3), some (.int x4), none, none, none, none] [] st := by
  intro d
  induction d with
  | zero =>
    intro a0 x1 x2 x3 x4 st l_a0 h
    exact nn_some h
  | succ d ih =>
    intro a0 x1 x2 x3 x4 st l_a0 h
    rw [L_R_cornersWith_10] at h
    obtain ⟨v2, h28, h⟩ := bnd_some h
    refine b_R_cornersWith_10 (l_a0 := l_a0) (k1 := t_R_sheetOf l_a0 h28 ?_)
    refine b_R_cornersWith_18  (k1 := fun e29 => ?_) (k2 := fun e29 => ?_)
    · replace h := if_t e29 h
      exact b_R_cornersWith_139  (k1 := lfI h k)
    · replace h := if_f e29 h
      refine b_R_cornersWith_21  (k1 := ?_)
      refine l_R_cornersWith_24 k ?_ FU _ _ _ _ _ _ _ l_a0 h
      · intro v21 v23 v24 v25 v26 s27 l22 h
        refine b_R_cornersWith_133  (k1 := ?_)
        exact ih _ _ _ _ _ _ l22 h
theorem t_R_cornersWith {κ : Ko} {F : Int32 → AS → Prop} {a0 : Nat} {x1 : Int32} {x2 : Int32} {st : AS} {v : Int32} {s' : AS} (l_a0 : ly κ a0 = (12, 36)) (h : f_R_cornersWith κ a0 x1 x2 st = some (v, s')) (k : F v s') : C κ M_R_cornersWith [.ref a0, .int x1, .int x2] st (RI F) := by
  unfold f_R_cornersWith at h
  refine e_R_cornersWith ?_
  obtain ⟨s1, h30, h⟩ := bnd_some h
  refine b_R_cornersWith_0 (l_a0 := l_a0) (k1 := t_R_marks l_a0 h30 ?_)
  refine b_R_cornersWith_5  (k1 := ?_)
  refine l_R_cornersWith_10 k FU _ _ _ _ _ _ l_a0 h
noncomputable def f_R_corners (κ : Ko) (a0 : Nat) (x1 : Int32) (x2 : Int32) (st : AS) : Option (Int32 × AS) := jn (some (((-1) : Int32), st)) fun j4 => if (f_R_isSheet κ a0 x1 st) = 0 then j4 else jn (bnd2 (f_R_cornersWith κ a0 x1 x2 st) (fun v2 s3 => some (v2, s3))) fun j1 => if x2 = 0 then j1 else if (wi ((x2 : Int32).toInt64) (2 : Int64) (4 : Int64)) = 0 then j4 else j1
theorem t_R_corners {κ : Ko} {F : Int32 → AS → Prop} {a0 : Nat} {x1 : Int32} {x2 : Int32} {st : AS} {v : Int32} {s' : AS} (l_a0 : ly κ a0 = (12, 36)) (h : f_R_corners κ a0 x1 x2 st = some (v, s')) (k : F v s') : C κ M_R_corners [.ref a0, .int x1, .int x2] st (RI F) := by
  unfold f_R_corners at h
  refine e_R_corners ?_
  refine b_R_corners_0 (l_a0 := l_a0) (k1 := t_R_isSheet l_a0 rfl ?_)
  obtain ⟨j4, hdj4, h⟩ := jn_some h
  have hj4 : j4 = some (v, s') → V κ M_R_corners (RI F) 35 [none, none, none] [] st := by
    intro h
    rw [hdj4] at h
    exact b_R_corners_35  (k1 := lfI h k)
  clear hdj4
  refine b_R_corners_5  (k1 := fun e5 => ?_) (k2 := fun e5 => ?_)
  · replace h := if_t e5 h
    exact hj4  h
  · replace h := if_f e5 h
    obtain ⟨j1, hdj1, h⟩ := jn_some h
    have hj1 : j1 = some (v, s') → V κ M_R_corners (RI F) 26 [some (.ref a0), some (.int x1), some (.int x2)] [] st := by
      intro h
      rw [hdj1] at h
      obtain ⟨v2, s3, h6, h⟩ := bnd2_some h
      refine b_R_corners_26 (l_a0 := l_a0) (k1 := t_R_cornersWith l_a0 h6 ?_)
      exact b_R_corners_32  (k1 := lfI h k)
    clear hdj1
    refine b_R_corners_8  (k1 := fun e7 => ?_) (k2 := fun e7 => ?_)
    · replace h := if_t e7 h
      exact hj1  h
    · replace h := if_f e7 h
      refine b_R_corners_12  (k1 := t_R_in  rfl ?_)
      refine b_R_corners_23  (k1 := fun e8 => ?_) (k2 := fun e8 => ?_)
      · replace h := if_t e8 h
        exact hj4  h
      · replace h := if_f e8 h
        exact hj1  h
noncomputable def f_R_flat (κ : Ko) (a0 : Nat) (x1 : Int32) (st : AS) : Option (Int32 × AS) := if (f_R_isSheet κ a0 x1 st) = 0 then some (((-1) : Int32), st) else bnd2 (f_R_cornersWith κ a0 x1 (5 : Int32) st) (fun v1 s2 => some ((if v1 = 0 then (1 : Int32) else (0 : Int32) : Int32), s2))
theorem t_R_flat {κ : Ko} {F : Int32 → AS → Prop} {a0 : Nat} {x1 : Int32} {st : AS} {v : Int32} {s' : AS} (l_a0 : ly κ a0 = (12, 36)) (h : f_R_flat κ a0 x1 st = some (v, s')) (k : F v s') : C κ M_R_flat [.ref a0, .int x1] st (RI F) := by
  unfold f_R_flat at h
  refine e_R_flat ?_
  refine b_R_flat_0 (l_a0 := l_a0) (k1 := t_R_isSheet l_a0 rfl ?_)
  refine b_R_flat_5  (k1 := fun e3 => ?_) (k2 := fun e3 => ?_)
  · replace h := if_f e3 h
    obtain ⟨v1, s2, h4, h⟩ := bnd2_some h
    refine b_R_flat_12 (l_a0 := l_a0) (k1 := t_R_cornersWith l_a0 h4 ?_)
    have K6 : (RI F) (some (.int (if v1 = 0 then (1 : Int32) else (0 : Int32) : Int32))) s2 := lfI h k
    refine b_R_flat_18  (k1 := fun e7 => ?_) (k2 := fun e7 => ?_)
    · exact b_R_flat_25  (k1 := (ite_f (P := fun z => (RI F) (some (.int z)) s2) e7 K6))
    · exact b_R_flat_21  (k1 := (ite_t (P := fun z => (RI F) (some (.int z)) s2) e7 K6))
  · replace h := if_t e3 h
    exact b_R_flat_8  (k1 := lfI h k)
noncomputable def L_R_strength_27 (κ : Ko) (st : AS) (k_88 : Int32 → Int64 → Option Int32) : Nat → Nat → Int32 → Int32 → Int64 → Int32 → Option Int32
  | 0, _, _, _, _, _ => none
  | d + 1, a0, x1, x2, y3, x5 => bnd (f_R_sheetOf κ a0 x1 (7 : Int32) st) (fun v1 => if v1 ≤ x5 then k_88 x2 y3 else bnd (f_R_longOf κ a0 x1 x5 st) (fun v2 => bnd (f_R_ridgeOf κ a0 x1 x5 (6 : Int32) st) (fun v3 => bnd (f_R_isSoft κ a0 x1 x5 st) (fun v4 => L_R_strength_27 κ st k_88 d a0 x1 x2 (if v4 = 0 then y3 + (((v2 * v3) : Int32).toInt64) else y3 + (((v2 * v3) / 2 : Int32).toInt64) : Int64) (x5 + 1)))))
noncomputable def f_R_strength (κ : Ko) (a0 : Nat) (x1 : Int32) (x2 : Int32) (st : AS) : Option Int32 := jn (some ((-1) : Int32)) fun j16 => if (f_R_isSheet κ a0 x1 st) = 0 then j16 else if (wi ((x2 : Int32).toInt64) (1 : Int64) (99 : Int64)) = 0 then j16 else L_R_strength_27 κ st (fun (v13 : Int32) (v14 : Int64) => grd (¬ ((v13 : Int32).toInt64) = 0) (some (((v14 * 100) / ((v13 : Int32).toInt64) : Int64).toInt32))) FU a0 x1 x2 (0 : Int64) (0 : Int32)
theorem l_R_strength_27 {κ : Ko} {F : Int32 → AS → Prop} {v : Int32} {st : AS} (k : F v st) {k_88 : Int32 → Int64 → Option Int32} (hk_88 : ∀ (x2 : Int32) (y3 : Int64), k_88 x2 y3 = some v → V κ M_R_strength (RI F) 88 [none, none, some (.int x2), some (.long y3), none, none, none] [] st) : ∀ (d : Nat) (a0 : Nat) (x1 : Int32) (x2 : Int32) (y3 : Int64) (x5 : Int32), ly κ a0 = (12, 36) → L_R_strength_27 κ st k_88 d a0 x1 x2 y3 x5 = some v → V κ M_R_strength (RI F) 27 [some (.ref a0), some (.int x1), some (.int x2), some (.long y3), none, some (.int x5), none] [] st := by
  intro d
  induction d with
  | zero =>
    intro a0 x1 x2 y3 x5 l_a0 h
    exact nn_some h
  | succ d ih =>
    intro a0 x1 x2 y3 x5 l_a0 h
    rw [L_R_strength_27] at h
    obtain ⟨v1, h5, h⟩ := bnd_some h
    refine b_R_strength_27 (l_a0 := l_a0) (k1 := t_R_sheetOf l_a0 h5 ?_)
    refine b_R_strength_36  (k1 := fun e6 => ?_) (k2 := fun e6 => ?_)
    · replace h := if_t e6 h
      exact hk_88 _ _  h
    · replace h := if_f e6 h
      obtain ⟨v2, h7, h⟩ := bnd_some h
      refine b_R_strength_39 (l_a0 := l_a0) (k1 := t_R_longOf l_a0 h7 ?_)
      obtain ⟨v3, h8, h⟩ := bnd_some h
      refine b_R_strength_46 (l_a0 := l_a0) (k1 := t_R_ridgeOf l_a0 h8 ?_)
      obtain ⟨v4, h9, h⟩ := bnd_some h
      refine b_R_strength_55 (l_a0 := l_a0) (k1 := t_R_isSoft l_a0 h9 ?_)
      have K11 : V κ M_R_strength (RI F) 27 [some (.ref a0), some (.int x1), some (.int x2), some (.long (if v4 = 0 then y3 + (((v2 * v3) : Int32).toInt64) else y3 + (((v2 * v3) / 2 : Int32).toInt64) : Int64)), none, some (.int (x5 + 1)), none] [] st := by
        exact ih _ _ _ _ _ l_a0 h
      refine b_R_strength_66  (k1 := fun e12 => ?_) (k2 := fun e12 => ?_)
      · refine b_R_strength_77  (k1 := ?_)
        exact (ite_t (P := fun z => V κ M_R_strength (RI F) 27 [some (.ref a0), some (.int x1), some (.int x2), some (.long z), none, some (.int (x5 + 1)), none] [] st) e12 K11)
      · refine b_R_strength_69  (k1 := ?_)
        exact (ite_f (P := fun z => V κ M_R_strength (RI F) 27 [some (.ref a0), some (.int x1), some (.int x2), some (.long z), none, some (.int (x5 + 1)), none] [] st) e12 K11)
theorem t_R_strength {κ : Ko} {F : Int32 → AS → Prop} {a0 : Nat} {x1 : Int32} {x2 : Int32} {st : AS} {v : Int32} (l_a0 : ly κ a0 = (12, 36)) (h : f_R_strength κ a0 x1 x2 st = some v) (k : F v st) : C κ M_R_strength [.ref a0, .int x1, .int x2] st (RI F) := by
  unfold f_R_strength at h
  refine e_R_strength ?_
  refine b_R_strength_0 (l_a0 := l_a0) (k1 := t_R_isSheet l_a0 rfl ?_)
  obtain ⟨j16, hdj16, h⟩ := jn_some h
  have hj16 : j16 = some v → V κ M_R_strength (RI F) 20 [none, none, none, none, none, none, none] [] st := by
    intro h
    rw [hdj16] at h
    exact b_R_strength_20  (k1 := lfIP h k)
  clear hdj16
  refine b_R_strength_5  (k1 := fun e17 => ?_) (k2 := fun e17 => ?_)
  · replace h := if_t e17 h
    exact hj16  h
  · replace h := if_f e17 h
    refine b_R_strength_8  (k1 := t_R_in  rfl ?_)
    refine b_R_strength_17  (k1 := fun e18 => ?_) (k2 := fun e18 => ?_)
    · replace h := if_f e18 h
      refine b_R_strength_22  (k1 := ?_)
      refine l_R_strength_27 k ?_ FU _ _ _ _ _ l_a0 h
      · intro v13 v14 h
        obtain ⟨h15, h⟩ := grd_some h
        exact b_R_strength_88 (z1 := h15) (k2 := lfIP h k)
    · replace h := if_t e18 h
      exact hj16  h
noncomputable def L_R_goes_2 (κ : Ko) (k_30 : Nat → Int32 → AS → Option AS) : Nat → Nat → Int32 → Int32 → AS → Option AS
  | 0, _, _, _, _ => none
  | d + 1, a0, x1, x3, st => if (gi st a0 29) ≤ x3 then k_30 a0 x1 st else grd (vp_in (x3 + 1) 21) (grd (vp_in x3 21) (L_R_goes_2 κ k_30 d a0 x1 (x3 + 1) (ui st (a0 + 17) (x3 : Int32).toNatClampNeg (gi st (a0 + 17) (x3 + 1 : Int32).toNatClampNeg))))
noncomputable def L_R_goes_32 (κ : Ko) : Nat → Nat → Int32 → AS → Option AS
  | 0, _, _, _ => none
  | d + 1, a0, x3, st => if (gi st a0 29) ≤ (x3 + 1) then some (ui st a0 29 ((gi st a0 29) - 1)) else grd (vp_in (x3 + 1) 20) (grd (vp_in x3 20) (L_R_goes_32 κ  d a0 (x3 + 1) (ui st (a0 + 18) (x3 : Int32).toNatClampNeg (gi st (a0 + 18) (x3 + 1 : Int32).toNatClampNeg))))
noncomputable def f_R_goes (κ : Ko) (a0 : Nat) (x1 : Int32) (x2 : Int32) (st : AS) : Option AS := L_R_goes_2 κ (fun (v4 : Nat) (v6 : Int32) (s7 : AS) => L_R_goes_32 κ  FU v4 v6 s7) FU a0 x1 x2 st
theorem l_R_goes_2 {κ : Ko} {F : AS → Prop} {s' : AS} (k : F s') {k_30 : Nat → Int32 → AS → Option AS} (hk_30 : ∀ (a0 : Nat) (x1 : Int32) (st : AS), ly κ a0 = (12, 36) → k_30 a0 x1 st = some s' → V κ M_R_goes (RV F) 30 [some (.ref a0), some (.int x1), none, none] [] st) : ∀ (d : Nat) (a0 : Nat) (x1 : Int32) (x3 : Int32) (st : AS), ly κ a0 = (12, 36) → L_R_goes_2 κ k_30 d a0 x1 x3 st = some s' → V κ M_R_goes (RV F) 2 [some (.ref a0), some (.int x1), none, some (.int x3)] [] st := by
  intro d
  induction d with
  | zero =>
    intro a0 x1 x3 st l_a0 h
    exact nn_some h
  | succ d ih =>
    intro a0 x1 x3 st l_a0 h
    rw [L_R_goes_2] at h
    refine b_R_goes_2 (l_a0 := l_a0) (k1 := fun e3 => ?_) (k2 := fun e3 => ?_)
    · replace h := if_t e3 h
      exact hk_30 _ _ _ l_a0 h
    · replace h := if_f e3 h
      obtain ⟨h1, h⟩ := grd_some h
      obtain ⟨h2, h⟩ := grd_some h
      refine b_R_goes_10 (l_a0 := l_a0) (b1 := h1) (b2 := h2) (k3 := ?_)
      exact ih _ _ _ _ l_a0 h
theorem l_R_goes_32 {κ : Ko} {F : AS → Prop} {s' : AS} (k : F s') : ∀ (d : Nat) (a0 : Nat) (x3 : Int32) (st : AS), ly κ a0 = (12, 36) → L_R_goes_32 κ  d a0 x3 st = some s' → V κ M_R_goes (RV F) 32 [some (.ref a0), none, none, some (.int x3)] [] st := by
  intro d
  induction d with
  | zero =>
    intro a0 x3 st l_a0 h
    exact nn_some h
  | succ d ih =>
    intro a0 x3 st l_a0 h
    rw [L_R_goes_32] at h
    refine b_R_goes_32 (l_a0 := l_a0) (k1 := fun e10 => ?_) (k2 := fun e10 => ?_)
    · replace h := if_t e10 h
      exact b_R_goes_62 (l_a0 := l_a0) (k1 := lfV h k)
    · replace h := if_f e10 h
      obtain ⟨h8, h⟩ := grd_some h
      obtain ⟨h9, h⟩ := grd_some h
      refine b_R_goes_42 (l_a0 := l_a0) (b1 := h8) (b2 := h9) (k3 := ?_)
      exact ih _ _ _ l_a0 h
theorem t_R_goes {κ : Ko} {F : AS → Prop} {a0 : Nat} {x1 : Int32} {x2 : Int32} {st : AS} {s' : AS} (l_a0 : ly κ a0 = (12, 36)) (h : f_R_goes κ a0 x1 x2 st = some s') (k : F s') : C κ M_R_goes [.ref a0, .int x1, .int x2] st (RV F) := by
  unfold f_R_goes at h
  refine e_R_goes ?_
  refine b_R_goes_0  (k1 := ?_)
  refine l_R_goes_2 k ?_ FU _ _ _ _ l_a0 h
  · intro v4 v6 s7 l5 h
    refine b_R_goes_30  (k1 := ?_)
    refine l_R_goes_32 k FU _ _ _ l5 h
noncomputable def L_R_reducesOnce_73 (κ : Ko) (k_134 : Nat → Int32 → Int32 → AS → Option (Int32 × AS)) : Nat → Nat → Int32 → AS → Option (Int32 × AS)
  | 0, _, _, _ => none
  | d + 1, a0, x1, st => if (gi st a0 29) ≤ (x1 + 1) then some ((0 : Int32), st) else jn (L_R_reducesOnce_73 κ k_134 d a0 (x1 + 1) st) fun j10 => grd (vp_in (x1 + 1) 21) (grd (vp_in x1 20) (grd (vp_in (x1 + 1) 20) (if (gi st (a0 + 18) (x1 : Int32).toNatClampNeg) = (gi st (a0 + 18) (x1 + 1 : Int32).toNatClampNeg) then j10 else grd (vp_in x1 21) (if (gi st (a0 + 17) (x1 : Int32).toNatClampNeg) < (gi st (a0 + 17) (x1 + 1 : Int32).toNatClampNeg) then j10 else grd (vp_in (x1 + 2) 21) (if (gi st (a0 + 17) (x1 + 1 : Int32).toNatClampNeg) ≤ (gi st (a0 + 17) (x1 + 2 : Int32).toNatClampNeg) then k_134 a0 x1 (gi st (a0 + 17) (x1 + 1 : Int32).toNatClampNeg) st else L_R_reducesOnce_73 κ k_134 d a0 (x1 + 1) st)))))
noncomputable def f_R_reducesOnce (κ : Ko) (a0 : Nat) (st : AS) : Option (Int32 × AS) := if (gi st a0 29) = 0 then some ((0 : Int32), st) else grd (vp_in 0 21) (grd (vp_in 1 21) (if (gi st (a0 + 17) (1 : Int32).toNatClampNeg) < (gi st (a0 + 17) (0 : Int32).toNatClampNeg) then grd (vp_in (gi st a0 29) 21) (grd (vp_in ((gi st a0 29) - 1) 21) (if (gi st (a0 + 17) ((gi st a0 29) - 1 : Int32).toNatClampNeg) < (gi st (a0 + 17) (gi st a0 29 : Int32).toNatClampNeg) then L_R_reducesOnce_73 κ (fun (v15 : Nat) (v17 : Int32) (v18 : Int32) (s19 : AS) => grd (vp_in v17 21) (grd (vp_in (v17 + 2) 21) (grd (vp_in v17 21) (bnd (f_R_goes κ v15 v17 (v17 + 1) (ui s19 (v15 + 17) (v17 : Int32).toNatClampNeg ((gi s19 (v15 + 17) (v17 : Int32).toNatClampNeg) + ((gi s19 (v15 + 17) (v17 + 2 : Int32).toNatClampNeg) - v18)))) (fun s23 => bnd (f_R_goes κ v15 v17 (v17 + 1) s23) (fun s24 => some ((1 : Int32), s24))))))) FU a0 (0 : Int32) st else bnd (f_R_goes κ a0 ((gi st a0 29) - 1) (gi st a0 29) st) (fun s25 => some ((1 : Int32), s25)))) else bnd (f_R_goes κ a0 (0 : Int32) (0 : Int32) st) (fun s26 => some ((1 : Int32), s26))))
theorem l_R_reducesOnce_73 {κ : Ko} {F : Int32 → AS → Prop} {v : Int32} {s' : AS} (k : F v s') {k_134 : Nat → Int32 → Int32 → AS → Option (Int32 × AS)} (hk_134 : ∀ (a0 : Nat) (x1 : Int32) (x2 : Int32) (st : AS), ly κ a0 = (12, 36) → k_134 a0 x1 x2 st = some (v, s') → V κ M_R_reducesOnce (RI F) 134 [some (.ref a0), some (.int x1), some (.int x2)] [] st) : ∀ (d : Nat) (a0 : Nat) (x1 : Int32) (st : AS), ly κ a0 = (12, 36) → L_R_reducesOnce_73 κ k_134 d a0 x1 st = some (v, s') → V κ M_R_reducesOnce (RI F) 73 [some (.ref a0), some (.int x1), none] [] st := by
  intro d
  induction d with
  | zero =>
    intro a0 x1 st l_a0 h
    exact nn_some h
  | succ d ih =>
    intro a0 x1 st l_a0 h
    rw [L_R_reducesOnce_73] at h
    refine b_R_reducesOnce_73 (l_a0 := l_a0) (k1 := fun e11 => ?_) (k2 := fun e11 => ?_)
    · replace h := if_t e11 h
      exact b_R_reducesOnce_177  (k1 := lfI h k)
    · replace h := if_f e11 h
      obtain ⟨j10, hdj10, h⟩ := jn_some h
      have hj10 : j10 = some (v, s') → V κ M_R_reducesOnce (RI F) 171 [some (.ref a0), some (.int x1), none] [] st := by
        intro h
        rw [hdj10] at h
        refine b_R_reducesOnce_171  (k1 := ?_)
        exact ih _ _ _ l_a0 h
      clear hdj10
      obtain ⟨h5, h⟩ := grd_some h
      obtain ⟨h6, h⟩ := grd_some h
      obtain ⟨h7, h⟩ := grd_some h
      refine b_R_reducesOnce_83 (l_a0 := l_a0) (b1 := h5) (b2 := h6) (b3 := h7) (k4 := fun e12 => ?_) (k5 := fun e12 => ?_)
      · replace h := if_t e12 h
        exact hj10  h
      · replace h := if_f e12 h
        obtain ⟨h8, h⟩ := grd_some h
        refine b_R_reducesOnce_109 (l_a0 := l_a0) (b1 := h8) (k2 := fun e13 => ?_) (k3 := fun e13 => ?_)
        · replace h := if_t e13 h
          exact hj10  h
        · replace h := if_f e13 h
          obtain ⟨h9, h⟩ := grd_some h
          refine b_R_reducesOnce_119 (l_a0 := l_a0) (b1 := h9) (k2 := fun e14 => ?_) (k3 := fun e14 => ?_)
          · replace h := if_t e14 h
            exact hk_134 _ _ _ _ l_a0 h
          · replace h := if_f e14 h
            refine b_R_reducesOnce_131  (k1 := ?_)
            exact ih _ _ _ l_a0 h
theorem t_R_reducesOnce {κ : Ko} {F : Int32 → AS → Prop} {a0 : Nat} {st : AS} {v : Int32} {s' : AS} (l_a0 : ly κ a0 = (12, 36)) (h : f_R_reducesOnce κ a0 st = some (v, s')) (k : F v s') : C κ M_R_reducesOnce [.ref a0] st (RI F) := by
  unfold f_R_reducesOnce at h
  refine e_R_reducesOnce ?_
  refine b_R_reducesOnce_0 (l_a0 := l_a0) (k1 := fun e27 => ?_) (k2 := fun e27 => ?_)
  · replace h := if_f e27 h
    obtain ⟨h1, h⟩ := grd_some h
    obtain ⟨h2, h⟩ := grd_some h
    refine b_R_reducesOnce_9 (l_a0 := l_a0) (b1 := h1) (b2 := h2) (k3 := fun e28 => ?_) (k4 := fun e28 => ?_)
    · replace h := if_t e28 h
      obtain ⟨h3, h⟩ := grd_some h
      obtain ⟨h4, h⟩ := grd_some h
      refine b_R_reducesOnce_32 (l_a0 := l_a0) (b1 := h3) (b2 := h4) (k3 := fun e29 => ?_) (k4 := fun e29 => ?_)
      · replace h := if_t e29 h
        refine b_R_reducesOnce_71  (k1 := ?_)
        refine l_R_reducesOnce_73 k ?_ FU _ _ _ l_a0 h
        · intro v15 v17 v18 s19 l16 h
          obtain ⟨h20, h⟩ := grd_some h
          obtain ⟨h21, h⟩ := grd_some h
          obtain ⟨h22, h⟩ := grd_some h
          obtain ⟨s23, h30, h⟩ := bnd_some h
          refine b_R_reducesOnce_134 (l_a0 := l16) (b1 := h20) (b2 := h21) (b3 := h22) (k4 := t_R_goes l16 h30 ?_)
          obtain ⟨s24, h31, h⟩ := bnd_some h
          refine b_R_reducesOnce_161 (l_a0 := l16) (k1 := t_R_goes l16 h31 ?_)
          exact b_R_reducesOnce_169  (k1 := lfI h k)
      · replace h := if_f e29 h
        obtain ⟨s25, h32, h⟩ := bnd_some h
        refine b_R_reducesOnce_55 (l_a0 := l_a0) (k1 := t_R_goes l_a0 h32 ?_)
        exact b_R_reducesOnce_69  (k1 := lfI h k)
    · replace h := if_f e28 h
      obtain ⟨s26, h33, h⟩ := bnd_some h
      refine b_R_reducesOnce_24 (l_a0 := l_a0) (k1 := t_R_goes l_a0 h33 ?_)
      exact b_R_reducesOnce_30  (k1 := lfI h k)
  · replace h := if_t e27 h
    exact b_R_reducesOnce_7  (k1 := lfI h k)
noncomputable def L_R_reduces_17 (κ : Ko) (k_48 : Nat → Int32 → Int32 → AS → Option AS) : Nat → Nat → Int32 → Int32 → Int32 → AS → Option AS
  | 0, _, _, _, _, _ => none
  | d + 1, a0, x1, x2, x3, st => if (gi st a0 29) < x3 then k_48 a0 x1 x2 st else grd (vp_in (((21 : Int32) * x1) + x3) 126) (grd (vp_in x3 21) (L_R_reduces_17 κ k_48 d a0 x1 x2 (x3 + 1) (ui st (a0 + 17) (x3 : Int32).toNatClampNeg (gi st (a0 + 8) (((21 : Int32) * x1) + x3 : Int32).toNatClampNeg))))
noncomputable def L_R_reduces_50 (κ : Ko) (k_92 : Nat → AS → Option AS) : Nat → Nat → Int32 → Int32 → Int32 → AS → Option AS
  | 0, _, _, _, _, _ => none
  | d + 1, a0, x1, x2, x3, st => if (gi st a0 29) ≤ x3 then k_92 a0 st else jn (fun (v12 : Int32) => grd (vp_in x3 20) (L_R_reduces_50 κ k_92 d a0 x1 x2 (x3 + 1) (ui st (a0 + 18) (x3 : Int32).toNatClampNeg ((gi st (a0 + 9) (((20 : Int32) * x1) + x3 : Int32).toNatClampNeg) ^^^ v12)))) fun j11 => grd (vp_in (((20 : Int32) * x1) + x3) 120) (if x3 = x2 then j11 (1 : Int32) else j11 (0 : Int32))
noncomputable def L_R_reduces_92 (κ : Ko) : Nat → Nat → AS → Option AS
  | 0, _, _ => none
  | d + 1, a0, st => bnd2 (f_R_reducesOnce κ a0 st) (fun v19 s20 => if v19 = 0 then some s20 else L_R_reduces_92 κ  d a0 (ui s20 a0 30 ((gi s20 a0 30) + 1)))
noncomputable def f_R_reduces (κ : Ko) (a0 : Nat) (x1 : Int32) (x2 : Int32) (st : AS) : Option AS := grd (vp_in x1 6) (L_R_reduces_17 κ (fun (v5 : Nat) (v7 : Int32) (v8 : Int32) (s9 : AS) => L_R_reduces_50 κ (fun (v16 : Nat) (s18 : AS) => L_R_reduces_92 κ  FU v16 s18) FU v5 v7 v8 (0 : Int32) s9) FU a0 x1 x2 (0 : Int32) (ui (ui st a0 29 (gi st (a0 + 10) (x1 : Int32).toNatClampNeg)) a0 30 0))
theorem l_R_reduces_17 {κ : Ko} {F : AS → Prop} {s' : AS} (k : F s') {k_48 : Nat → Int32 → Int32 → AS → Option AS} (hk_48 : ∀ (a0 : Nat) (x1 : Int32) (x2 : Int32) (st : AS), ly κ a0 = (12, 36) → k_48 a0 x1 x2 st = some s' → V κ M_R_reduces (RV F) 48 [some (.ref a0), some (.int x1), some (.int x2), none] [] st) : ∀ (d : Nat) (a0 : Nat) (x1 : Int32) (x2 : Int32) (x3 : Int32) (st : AS), ly κ a0 = (12, 36) → L_R_reduces_17 κ k_48 d a0 x1 x2 x3 st = some s' → V κ M_R_reduces (RV F) 17 [some (.ref a0), some (.int x1), some (.int x2), some (.int x3)] [] st := by
  intro d
  induction d with
  | zero =>
    intro a0 x1 x2 x3 st l_a0 h
    exact nn_some h
  | succ d ih =>
    intro a0 x1 x2 x3 st l_a0 h
    rw [L_R_reduces_17] at h
    refine b_R_reduces_17 (l_a0 := l_a0) (k1 := fun e4 => ?_) (k2 := fun e4 => ?_)
    · replace h := if_t e4 h
      exact hk_48 _ _ _ _ l_a0 h
    · replace h := if_f e4 h
      obtain ⟨h2, h⟩ := grd_some h
      obtain ⟨h3, h⟩ := grd_some h
      refine b_R_reduces_25 (l_a0 := l_a0) (b1 := h2) (b2 := h3) (k3 := ?_)
      exact ih _ _ _ _ _ l_a0 h
theorem l_R_reduces_50 {κ : Ko} {F : AS → Prop} {s' : AS} (k : F s') {k_92 : Nat → AS → Option AS} (hk_92 : ∀ (a0 : Nat) (st : AS), ly κ a0 = (12, 36) → k_92 a0 st = some s' → V κ M_R_reduces (RV F) 92 [some (.ref a0), none, none, none] [] st) : ∀ (d : Nat) (a0 : Nat) (x1 : Int32) (x2 : Int32) (x3 : Int32) (st : AS), ly κ a0 = (12, 36) → L_R_reduces_50 κ k_92 d a0 x1 x2 x3 st = some s' → V κ M_R_reduces (RV F) 50 [some (.ref a0), some (.int x1), some (.int x2), some (.int x3)] [] st := by
  intro d
  induction d with
  | zero =>
    intro a0 x1 x2 x3 st l_a0 h
    exact nn_some h
  | succ d ih =>
    intro a0 x1 x2 x3 st l_a0 h
    rw [L_R_reduces_50] at h
    refine b_R_reduces_50 (l_a0 := l_a0) (k1 := fun e14 => ?_) (k2 := fun e14 => ?_)
    · replace h := if_t e14 h
      exact hk_92 _ _ l_a0 h
    · replace h := if_f e14 h
      obtain ⟨j11, hdj11, h⟩ := jn_some h
      have hj11 : ∀ (v12 : Int32), j11 v12 = some s' → V κ M_R_reduces (RV F) 84 [some (.ref a0), some (.int x1), some (.int x2), some (.int x3)] [.int v12, .int (gi st (a0 + 9) (((20 : Int32) * x1) + x3 : Int32).toNatClampNeg), .int x3, .ref (a0 + 18)] st := by
        intro v12 h
        rw [hdj11] at h
        obtain ⟨h13, h⟩ := grd_some h
        refine b_R_reduces_84 (l_c0 := (co12 18 50 20 rfl l_a0)) (b1 := h13) (k2 := ?_)
        exact ih _ _ _ _ _ l_a0 h
      clear hdj11
      obtain ⟨h10, h⟩ := grd_some h
      refine b_R_reduces_58 (l_a0 := l_a0) (b1 := h10) (k2 := fun e15 => ?_) (k3 := fun e15 => ?_)
      · replace h := if_f e15 h
        refine b_R_reduces_83  (k1 := ?_)
        exact hj11 _  h
      · replace h := if_t e15 h
        refine b_R_reduces_79  (k1 := ?_)
        exact hj11 _  h
theorem l_R_reduces_92 {κ : Ko} {F : AS → Prop} {s' : AS} (k : F s') : ∀ (d : Nat) (a0 : Nat) (st : AS), ly κ a0 = (12, 36) → L_R_reduces_92 κ  d a0 st = some s' → V κ M_R_reduces (RV F) 92 [some (.ref a0), none, none, none] [] st := by
  intro d
  induction d with
  | zero =>
    intro a0 st l_a0 h
    exact nn_some h
  | succ d ih =>
    intro a0 st l_a0 h
    rw [L_R_reduces_92] at h
    obtain ⟨v19, s20, h21, h⟩ := bnd2_some h
    refine b_R_reduces_92 (l_a0 := l_a0) (k1 := t_R_reducesOnce l_a0 h21 ?_)
    refine b_R_reduces_96  (k1 := fun e22 => ?_) (k2 := fun e22 => ?_)
    · replace h := if_t e22 h
      exact b_R_reduces_112  (k1 := lfV h k)
    · replace h := if_f e22 h
      refine b_R_reduces_99 (l_a0 := l_a0) (k1 := ?_)
      exact ih _ _ l_a0 h
theorem t_R_reduces {κ : Ko} {F : AS → Prop} {a0 : Nat} {x1 : Int32} {x2 : Int32} {st : AS} {s' : AS} (l_a0 : ly κ a0 = (12, 36)) (h : f_R_reduces κ a0 x1 x2 st = some s') (k : F s') : C κ M_R_reduces [.ref a0, .int x1, .int x2] st (RV F) := by
  unfold f_R_reduces at h
  refine e_R_reduces ?_
  obtain ⟨h1, h⟩ := grd_some h
  refine b_R_reduces_0 (l_a0 := l_a0) (b1 := h1) (k2 := ?_)
  refine l_R_reduces_17 k ?_ FU _ _ _ _ _ l_a0 h
  · intro v5 v7 v8 s9 l6 h
    refine b_R_reduces_48  (k1 := ?_)
    refine l_R_reduces_50 k ?_ FU _ _ _ _ _ l6 h
    · intro v16 s18 l17 h
      refine l_R_reduces_92 k FU _ _ l17 h
noncomputable def L_R_deepestOf_7 (κ : Ko) : Nat → Nat → Int32 → Int32 → Int32 → Int32 → AS → Option (Int32 × AS)
  | 0, _, _, _, _, _, _ => none
  | d + 1, a0, x1, x2, x3, x4, st => grd (vp_in x1 6) (if (gi st (a0 + 10) (x1 : Int32).toNatClampNeg) ≤ x4 then some (x2, st) else bnd (f_R_reduces κ a0 x1 x4 st) (fun s2 => jn (L_R_deepestOf_7 κ  d a0 x1 x4 (gi s2 a0 29) (x4 + 1) s2) fun j3 => if x2 < 0 then j3 else if (gi s2 a0 29) < x3 then j3 else L_R_deepestOf_7 κ  d a0 x1 x2 x3 (x4 + 1) s2))
noncomputable def f_R_deepestOf (κ : Ko) (a0 : Nat) (x1 : Int32) (st : AS) : Option (Int32 × AS) := L_R_deepestOf_7 κ  FU a0 x1 ((-1) : Int32) (0 : Int32) (0 : Int32) st
theorem l_R_deepestOf_7 {κ : Ko} {F : Int32 → AS → Prop} {v : Int32} {s' : AS} (k : F v s') : ∀ (d : Nat) (a0 : Nat) (x1 : Int32) (x2 : Int32) (x3 : Int32) (x4 : Int32) (st : AS), ly κ a0 = (12, 36) → L_R_deepestOf_7 κ  d a0 x1 x2 x3 x4 st = some (v, s') → V κ M_R_deepestOf (RI F) 7 [some (.ref a0), some (.int x1), some (.int x2), some (.int x3), some (.int x4)] [] st := by
  intro d
  induction d with
  | zero =>
    intro a0 x1 x2 x3 x4 st l_a0 h
    exact nn_some h
  | succ d ih =>
    intro a0 x1 x2 x3 x4 st l_a0 h
    rw [L_R_deepestOf_7] at h
    obtain ⟨h1, h⟩ := grd_some h
    refine b_R_deepestOf_7 (l_a0 := l_a0) (b1 := h1) (k2 := fun e4 => ?_) (k3 := fun e4 => ?_)
    · replace h := if_t e4 h
      exact b_R_deepestOf_54  (k1 := lfI h k)
    · replace h := if_f e4 h
      obtain ⟨s2, h5, h⟩ := bnd_some h
      refine b_R_deepestOf_18 (l_a0 := l_a0) (k1 := t_R_reduces l_a0 h5 ?_)
      obtain ⟨j3, hdj3, h⟩ := jn_some h
      have hj3 : j3 = some (v, s') → V κ M_R_deepestOf (RI F) 40 [some (.ref a0), some (.int x1), none, none, some (.int x4)] [] s2 := by
        intro h
        rw [hdj3] at h
        refine b_R_deepestOf_40 (l_a0 := l_a0) (k1 := ?_)
        exact ih _ _ _ _ _ _ l_a0 h
      clear hdj3
      refine b_R_deepestOf_25  (k1 := fun e6 => ?_) (k2 := fun e6 => ?_)
      · replace h := if_t e6 h
        exact hj3  h
      · replace h := if_f e6 h
        refine b_R_deepestOf_29 (l_a0 := l_a0) (k1 := fun e7 => ?_) (k2 := fun e7 => ?_)
        · replace h := if_t e7 h
          exact hj3  h
        · replace h := if_f e7 h
          refine b_R_deepestOf_37  (k1 := ?_)
          exact ih _ _ _ _ _ _ l_a0 h
theorem t_R_deepestOf {κ : Ko} {F : Int32 → AS → Prop} {a0 : Nat} {x1 : Int32} {st : AS} {v : Int32} {s' : AS} (l_a0 : ly κ a0 = (12, 36)) (h : f_R_deepestOf κ a0 x1 st = some (v, s')) (k : F v s') : C κ M_R_deepestOf [.ref a0, .int x1] st (RI F) := by
  unfold f_R_deepestOf at h
  refine e_R_deepestOf ?_
  refine b_R_deepestOf_0  (k1 := ?_)
  refine l_R_deepestOf_7 k FU _ _ _ _ _ _ l_a0 h
noncomputable def f_R_strip (κ : Ko) (a0 : Nat) (x1 : Int32) (x2 : Int32) (st : AS) : Option (Int32 × AS) := bnd (f_R_isText κ a0 (3 : Int32) x1 st) (fun v1 => jn (some (((-2) : Int32), st)) fun j7 => if v1 = 0 then j7 else if (wi ((x2 : Int32).toInt64) (0 : Int64) (5 : Int64)) = 0 then j7 else if x2 = 5 then bnd2 (f_R_deepestOf κ a0 x1 st) (fun v5 s6 => some (v5, s6)) else bnd (f_R_reduces κ a0 x1 ((-1) : Int32) st) (fun s2 => if x2 = 0 then grd (vp_in x1 6) (some (gi s2 (a0 + 10) (x1 : Int32).toNatClampNeg, s2)) else if x2 = 1 then some ((if (gi s2 a0 29) = 0 then (1 : Int32) else (0 : Int32) : Int32), s2) else if x2 = 2 then some (gi s2 a0 30, s2) else if x2 = 3 then some (gi s2 a0 29, s2) else grd (vp_in 0 21) (some (gi s2 (a0 + 17) (0 : Int32).toNatClampNeg, s2))))
theorem t_R_strip {κ : Ko} {F : Int32 → AS → Prop} {a0 : Nat} {x1 : Int32} {x2 : Int32} {st : AS} {v : Int32} {s' : AS} (l_a0 : ly κ a0 = (12, 36)) (h : f_R_strip κ a0 x1 x2 st = some (v, s')) (k : F v s') : C κ M_R_strip [.ref a0, .int x1, .int x2] st (RI F) := by
  unfold f_R_strip at h
  refine e_R_strip ?_
  obtain ⟨v1, h8, h⟩ := bnd_some h
  refine b_R_strip_0 (l_a0 := l_a0) (k1 := t_R_isText l_a0 h8 ?_)
  obtain ⟨j7, hdj7, h⟩ := jn_some h
  have hj7 : j7 = some (v, s') → V κ M_R_strip (RI F) 21 [none, none, none] [] st := by
    intro h
    rw [hdj7] at h
    exact b_R_strip_21  (k1 := lfI h k)
  clear hdj7
  refine b_R_strip_6  (k1 := fun e9 => ?_) (k2 := fun e9 => ?_)
  · replace h := if_t e9 h
    exact hj7  h
  · replace h := if_f e9 h
    refine b_R_strip_9  (k1 := t_R_in  rfl ?_)
    refine b_R_strip_18  (k1 := fun e10 => ?_) (k2 := fun e10 => ?_)
    · replace h := if_f e10 h
      refine b_R_strip_24  (k1 := fun e11 => ?_) (k2 := fun e11 => ?_)
      · replace h := if_f e11 h
        obtain ⟨s2, h12, h⟩ := bnd_some h
        refine b_R_strip_35 (l_a0 := l_a0) (k1 := t_R_reduces l_a0 h12 ?_)
        refine b_R_strip_41  (k1 := fun e13 => ?_) (k2 := fun e13 => ?_) (k3 := fun e13 => ?_) (k4 := fun e13 => ?_) (k5 := fun e13 => ?_)
        · replace h := if_t e13 h
          obtain ⟨h3, h⟩ := grd_some h
          exact b_R_strip_72 (l_a0 := l_a0) (b1 := h3) (k2 := lfI h k)
        · replace h := if_f (fun z => by rw [z] at e13; exact absurd e13 (by decide)) h
          replace h := if_t e13 h
          have K15 : (RI F) (some (.int (if (gi s2 a0 29) = 0 then (1 : Int32) else (0 : Int32) : Int32))) s2 := lfI h k
          refine b_R_strip_79 (l_a0 := l_a0) (k1 := fun e16 => ?_) (k2 := fun e16 => ?_)
          · exact b_R_strip_90  (k1 := (ite_f (P := fun z => (RI F) (some (.int z)) s2) e16 K15))
          · exact b_R_strip_86  (k1 := (ite_t (P := fun z => (RI F) (some (.int z)) s2) e16 K15))
        · replace h := if_f (fun z => by rw [z] at e13; exact absurd e13 (by decide)) h
          replace h := if_f (fun z => by rw [z] at e13; exact absurd e13 (by decide)) h
          replace h := if_t e13 h
          exact b_R_strip_92 (l_a0 := l_a0) (k1 := lfI h k)
        · replace h := if_f (fun z => by rw [z] at e13; exact absurd e13 (by decide)) h
          replace h := if_f (fun z => by rw [z] at e13; exact absurd e13 (by decide)) h
          replace h := if_f (fun z => by rw [z] at e13; exact absurd e13 (by decide)) h
          replace h := if_t e13 h
          exact b_R_strip_97 (l_a0 := l_a0) (k1 := lfI h k)
        · replace h := if_f (fun z => by rw [z] at e13; exact absurd e13 (by decide)) h
          replace h := if_f (fun z => by rw [z] at e13; exact absurd e13 (by decide)) h
          replace h := if_f (fun z => by rw [z] at e13; exact absurd e13 (by decide)) h
          replace h := if_f (fun z => by rw [z] at e13; exact absurd e13 (by decide)) h
          obtain ⟨h4, h⟩ := grd_some h
          exact b_R_strip_102 (l_a0 := l_a0) (b1 := h4) (k2 := lfI h k)
      · replace h := if_t e11 h
        obtain ⟨v5, s6, h17, h⟩ := bnd2_some h
        refine b_R_strip_29 (l_a0 := l_a0) (k1 := t_R_deepestOf l_a0 h17 ?_)
        exact b_R_strip_34  (k1 := lfI h k)
    · replace h := if_t e10 h
      exact hj7  h
noncomputable def f_R_isFacet (κ : Ko) (a0 : Nat) (x1 : Int32) (x2 : Int32) (st : AS) : Option Int32 := jn (some (0 : Int32)) fun j2 => if (f_R_isSheet κ a0 x1 st) = 0 then j2 else bnd (f_R_sheetOf κ a0 x1 (6 : Int32) st) (fun v1 => if (wi ((x2 : Int32).toInt64) (0 : Int64) ((v1 - 1 : Int32).toInt64)) = 0 then j2 else some (1 : Int32))
theorem t_R_isFacet {κ : Ko} {F : Int32 → AS → Prop} {a0 : Nat} {x1 : Int32} {x2 : Int32} {st : AS} {v : Int32} (l_a0 : ly κ a0 = (12, 36)) (h : f_R_isFacet κ a0 x1 x2 st = some v) (k : F v st) : C κ M_R_isFacet [.ref a0, .int x1, .int x2] st (RI F) := by
  unfold f_R_isFacet at h
  refine e_R_isFacet ?_
  refine b_R_isFacet_0 (l_a0 := l_a0) (k1 := t_R_isSheet l_a0 rfl ?_)
  obtain ⟨j2, hdj2, h⟩ := jn_some h
  have hj2 : j2 = some v → V κ M_R_isFacet (RI F) 31 [none, none, none] [] st := by
    intro h
    rw [hdj2] at h
    exact b_R_isFacet_31  (k1 := lfIP h k)
  clear hdj2
  refine b_R_isFacet_5  (k1 := fun e3 => ?_) (k2 := fun e3 => ?_)
  · replace h := if_t e3 h
    exact hj2  h
  · replace h := if_f e3 h
    obtain ⟨v1, h4, h⟩ := bnd_some h
    refine b_R_isFacet_8 (l_a0 := l_a0) (k1 := t_R_sheetOf l_a0 h4 ?_)
    refine b_R_isFacet_18  (k1 := t_R_in  rfl ?_)
    refine b_R_isFacet_24  (k1 := fun e5 => ?_) (k2 := fun e5 => ?_)
    · replace h := if_t e5 h
      exact hj2  h
    · replace h := if_f e5 h
      exact b_R_isFacet_27  (k1 := lfIP h k)
noncomputable def f_R_common (κ : Ko) (x0 : Int32) (x1 : Int32) (x2 : Int32) (x3 : Int32) (st : AS) : Int32 := (if (x2 + x3) ≤ (x0 + x1) then (x2 + x3) - (if x0 ≤ x2 then x2 else x0 : Int32) else (x0 + x1) - (if x0 ≤ x2 then x2 else x0 : Int32) : Int32)
theorem t_R_common {κ : Ko} {F : Int32 → AS → Prop} {x0 : Int32} {x1 : Int32} {x2 : Int32} {x3 : Int32} {st : AS} {v : Int32} (h : f_R_common κ x0 x1 x2 x3 st = v) (k : F v st) : C κ M_R_common [.int x0, .int x1, .int x2, .int x3] st (RI F) := by
  unfold f_R_common at h
  refine e_R_common ?_
  have K2 : V κ M_R_common (RI F) 10 [some (.int x0), some (.int x1), some (.int x2), some (.int x3), none, none] [.int (if x0 ≤ x2 then x2 else x0 : Int32)] st := by
    have K4 : (RI F) (some (.int (if (x2 + x3) ≤ (x0 + x1) then (x2 + x3) - (if x0 ≤ x2 then x2 else x0 : Int32) else (x0 + x1) - (if x0 ≤ x2 then x2 else x0 : Int32) : Int32))) st := lfIPT h k
    refine b_R_common_10  (k1 := fun e5 => ?_) (k2 := fun e5 => ?_)
    · exact b_R_common_27  (k1 := (ite_t (P := fun z => (RI F) (some (.int z)) st) e5 K4))
    · exact b_R_common_21  (k1 := (ite_f (P := fun z => (RI F) (some (.int z)) st) e5 K4))
  refine b_R_common_0  (k1 := fun e6 => ?_) (k2 := fun e6 => ?_)
  · refine b_R_common_9  (k1 := ?_)
    exact (ite_t (P := fun z => V κ M_R_common (RI F) 10 [some (.int x0), some (.int x1), some (.int x2), some (.int x3), none, none] [.int z] st) e6 K2)
  · refine b_R_common_5  (k1 := ?_)
    exact (ite_f (P := fun z => V κ M_R_common (RI F) 10 [some (.int x0), some (.int x1), some (.int x2), some (.int x3), none, none] [.int z] st) e6 K2)
noncomputable def f_R_areBeside (κ : Ko) (a0 : Nat) (x1 : Int32) (x2 : Int32) (x3 : Int32) (st : AS) : Option Int32 := bnd (f_R_facetOf κ a0 x1 x2 (0 : Int32) st) (fun v1 => bnd (f_R_facetOf κ a0 x1 x2 (2 : Int32) st) (fun v2 => bnd (f_R_facetOf κ a0 x1 x3 (0 : Int32) st) (fun v3 => bnd (f_R_facetOf κ a0 x1 x3 (2 : Int32) st) (fun v4 => bnd (f_R_facetOf κ a0 x1 x2 (1 : Int32) st) (fun v5 => bnd (f_R_facetOf κ a0 x1 x2 (3 : Int32) st) (fun v6 => bnd (f_R_facetOf κ a0 x1 x3 (1 : Int32) st) (fun v7 => bnd (f_R_facetOf κ a0 x1 x3 (3 : Int32) st) (fun v8 => jn (some (1 : Int32)) fun j11 => jn (jn (some (0 : Int32)) fun j10 => if (f_R_common κ v5 v6 v7 v8 st) = 0 then if (f_R_common κ v1 v2 v3 v4 st) ≤ 0 then j10 else j11 else j10) fun j9 => if (f_R_common κ v1 v2 v3 v4 st) = 0 then if 0 < (f_R_common κ v5 v6 v7 v8 st) then j11 else j9 else j9))))))))
theorem t_R_areBeside {κ : Ko} {F : Int32 → AS → Prop} {a0 : Nat} {x1 : Int32} {x2 : Int32} {x3 : Int32} {st : AS} {v : Int32} (l_a0 : ly κ a0 = (12, 36)) (h : f_R_areBeside κ a0 x1 x2 x3 st = some v) (k : F v st) : C κ M_R_areBeside [.ref a0, .int x1, .int x2, .int x3] st (RI F) := by
  unfold f_R_areBeside at h
  refine e_R_areBeside ?_
  obtain ⟨v1, h12, h⟩ := bnd_some h
  refine b_R_areBeside_0 (l_a0 := l_a0) (k1 := t_R_facetOf l_a0 h12 ?_)
  obtain ⟨v2, h13, h⟩ := bnd_some h
  refine b_R_areBeside_7 (l_a0 := l_a0) (k1 := t_R_facetOf l_a0 h13 ?_)
  obtain ⟨v3, h14, h⟩ := bnd_some h
  refine b_R_areBeside_14 (l_a0 := l_a0) (k1 := t_R_facetOf l_a0 h14 ?_)
  obtain ⟨v4, h15, h⟩ := bnd_some h
  refine b_R_areBeside_21 (l_a0 := l_a0) (k1 := t_R_facetOf l_a0 h15 ?_)
  refine b_R_areBeside_28  (k1 := t_R_common  rfl ?_)
  obtain ⟨v5, h16, h⟩ := bnd_some h
  refine b_R_areBeside_31 (l_a0 := l_a0) (k1 := t_R_facetOf l_a0 h16 ?_)
  obtain ⟨v6, h17, h⟩ := bnd_some h
  refine b_R_areBeside_40 (l_a0 := l_a0) (k1 := t_R_facetOf l_a0 h17 ?_)
  obtain ⟨v7, h18, h⟩ := bnd_some h
  refine b_R_areBeside_47 (l_a0 := l_a0) (k1 := t_R_facetOf l_a0 h18 ?_)
  obtain ⟨v8, h19, h⟩ := bnd_some h
  refine b_R_areBeside_54 (l_a0 := l_a0) (k1 := t_R_facetOf l_a0 h19 ?_)
  refine b_R_areBeside_61  (k1 := t_R_common  rfl ?_)
  obtain ⟨j11, hdj11, h⟩ := jn_some h
  have hj11 : j11 = some v → V κ M_R_areBeside (RI F) 86 [none, none, none, none, none, none] [] st := by
    intro h
    rw [hdj11] at h
    exact b_R_areBeside_86  (k1 := lfIP h k)
  clear hdj11
  obtain ⟨j9, hdj9, h⟩ := jn_some h
  have hj9 : j9 = some v → V κ M_R_areBeside (RI F) 76 [none, none, none, none, some (.int (f_R_common κ v1 v2 v3 v4 st)), some (.int (f_R_common κ v5 v6 v7 v8 st))] [] st := by
    intro h
    rw [hdj9] at h
    obtain ⟨j10, hdj10, h⟩ := jn_some h
    have hj10 : j10 = some v → V κ M_R_areBeside (RI F) 90 [none, none, none, none, none, none] [] st := by
      intro h
      rw [hdj10] at h
      exact b_R_areBeside_90  (k1 := lfIP h k)
    clear hdj10
    refine b_R_areBeside_76  (k1 := fun e20 => ?_) (k2 := fun e20 => ?_)
    · replace h := if_f e20 h
      exact hj10  h
    · replace h := if_t e20 h
      refine b_R_areBeside_81  (k1 := fun e21 => ?_) (k2 := fun e21 => ?_)
      · replace h := if_t e21 h
        exact hj10  h
      · replace h := if_f e21 h
        exact hj11  h
  clear hdj9
  refine b_R_areBeside_64  (k1 := fun e22 => ?_) (k2 := fun e22 => ?_)
  · replace h := if_f e22 h
    exact hj9  h
  · replace h := if_t e22 h
    refine b_R_areBeside_71  (k1 := fun e23 => ?_) (k2 := fun e23 => ?_)
    · replace h := if_t e23 h
      exact hj11  h
    · replace h := if_f e23 h
      exact hj9  h
noncomputable def L_R_besideOf_5 (κ : Ko) (st : AS) : Nat → Nat → Int32 → Int32 → Int32 → Int32 → Option Int32
  | 0, _, _, _, _, _ => none
  | d + 1, a0, x1, x2, x3, x4 => bnd (f_R_sheetOf κ a0 x1 (6 : Int32) st) (fun v1 => if v1 ≤ x4 then some x3 else jn (L_R_besideOf_5 κ st  d a0 x1 x2 (x3 + 0) (x4 + 1)) fun j3 => if x4 = x2 then j3 else bnd (f_R_areBeside κ a0 x1 x2 x4 st) (fun v2 => if v2 = 0 then j3 else L_R_besideOf_5 κ st  d a0 x1 x2 (x3 + 1) (x4 + 1)))
noncomputable def f_R_besideOf (κ : Ko) (a0 : Nat) (x1 : Int32) (x2 : Int32) (st : AS) : Option Int32 := L_R_besideOf_5 κ st  FU a0 x1 x2 (0 : Int32) (0 : Int32)
theorem l_R_besideOf_5 {κ : Ko} {F : Int32 → AS → Prop} {v : Int32} {st : AS} (k : F v st) : ∀ (d : Nat) (a0 : Nat) (x1 : Int32) (x2 : Int32) (x3 : Int32) (x4 : Int32), ly κ a0 = (12, 36) → L_R_besideOf_5 κ st  d a0 x1 x2 x3 x4 = some v → V κ M_R_besideOf (RI F) 5 [some (.ref a0), some (.int x1), some (.int x2), some (.int x3), some (.int x4)] [] st := by
  intro d
  induction d with
  | zero =>
    intro a0 x1 x2 x3 x4 l_a0 h
    exact nn_some h
  | succ d ih =>
    intro a0 x1 x2 x3 x4 l_a0 h
    rw [L_R_besideOf_5] at h
    obtain ⟨v1, h4, h⟩ := bnd_some h
    refine b_R_besideOf_5 (l_a0 := l_a0) (k1 := t_R_sheetOf l_a0 h4 ?_)
    refine b_R_besideOf_14  (k1 := fun e5 => ?_) (k2 := fun e5 => ?_)
    · replace h := if_t e5 h
      exact b_R_besideOf_48  (k1 := lfIP h k)
    · replace h := if_f e5 h
      obtain ⟨j3, hdj3, h⟩ := jn_some h
      have hj3 : j3 = some v → V κ M_R_besideOf (RI F) 39 [some (.ref a0), some (.int x1), some (.int x2), none, some (.int x4)] [.int x3] st := by
        intro h
        rw [hdj3] at h
        refine b_R_besideOf_39  (k1 := ?_)
        exact ih _ _ _ _ _ l_a0 h
      clear hdj3
      refine b_R_besideOf_17  (k1 := fun e6 => ?_) (k2 := fun e6 => ?_)
      · replace h := if_t e6 h
        exact hj3  h
      · replace h := if_f e6 h
        obtain ⟨v2, h7, h⟩ := bnd_some h
        refine b_R_besideOf_24 (l_a0 := l_a0) (k1 := t_R_areBeside l_a0 h7 ?_)
        refine b_R_besideOf_32  (k1 := fun e8 => ?_) (k2 := fun e8 => ?_)
        · replace h := if_t e8 h
          exact hj3  h
        · replace h := if_f e8 h
          refine b_R_besideOf_35  (k1 := ?_)
          exact ih _ _ _ _ _ l_a0 h
theorem t_R_besideOf {κ : Ko} {F : Int32 → AS → Prop} {a0 : Nat} {x1 : Int32} {x2 : Int32} {st : AS} {v : Int32} (l_a0 : ly κ a0 = (12, 36)) (h : f_R_besideOf κ a0 x1 x2 st = some v) (k : F v st) : C κ M_R_besideOf [.ref a0, .int x1, .int x2] st (RI F) := by
  unfold f_R_besideOf at h
  refine e_R_besideOf ?_
  refine b_R_besideOf_0  (k1 := ?_)
  refine l_R_besideOf_5 k FU _ _ _ _ _ l_a0 h
noncomputable def f_R_beside (κ : Ko) (a0 : Nat) (x1 : Int32) (x2 : Int32) (st : AS) : Option Int32 := bnd (f_R_isFacet κ a0 x1 x2 st) (fun v1 => if v1 = 0 then some ((-1) : Int32) else bnd (f_R_besideOf κ a0 x1 x2 st) (fun v2 => some v2))
theorem t_R_beside {κ : Ko} {F : Int32 → AS → Prop} {a0 : Nat} {x1 : Int32} {x2 : Int32} {st : AS} {v : Int32} (l_a0 : ly κ a0 = (12, 36)) (h : f_R_beside κ a0 x1 x2 st = some v) (k : F v st) : C κ M_R_beside [.ref a0, .int x1, .int x2] st (RI F) := by
  unfold f_R_beside at h
  refine e_R_beside ?_
  obtain ⟨v1, h3, h⟩ := bnd_some h
  refine b_R_beside_0 (l_a0 := l_a0) (k1 := t_R_isFacet l_a0 h3 ?_)
  refine b_R_beside_6  (k1 := fun e4 => ?_) (k2 := fun e4 => ?_)
  · replace h := if_t e4 h
    exact b_R_beside_18  (k1 := lfIP h k)
  · replace h := if_f e4 h
    obtain ⟨v2, h5, h⟩ := bnd_some h
    refine b_R_beside_9 (l_a0 := l_a0) (k1 := t_R_besideOf l_a0 h5 ?_)
    exact b_R_beside_15  (k1 := lfIP h k)
noncomputable def L_R_most_22 (κ : Ko) (st : AS) : Nat → Nat → Int32 → Int32 → Int32 → Int32 → Option Int32
  | 0, _, _, _, _, _ => none
  | d + 1, a0, x1, x2, x3, x4 => bnd (f_R_sheetOf κ a0 x1 (6 : Int32) st) (fun v2 => if v2 ≤ x4 then some x2 else bnd (f_R_besideOf κ a0 x1 x4 st) (fun v3 => L_R_most_22 κ st  d a0 x1 (if x3 < v3 then x4 else x2 : Int32) (if x3 < v3 then v3 else x3 : Int32) (x4 + 1)))
noncomputable def f_R_most (κ : Ko) (a0 : Nat) (x1 : Int32) (st : AS) : Option Int32 := if (f_R_isSheet κ a0 x1 st) = 0 then some ((-1) : Int32) else bnd (f_R_besideOf κ a0 x1 (0 : Int32) st) (fun v1 => L_R_most_22 κ st  FU a0 x1 (0 : Int32) v1 (1 : Int32))
theorem l_R_most_22 {κ : Ko} {F : Int32 → AS → Prop} {v : Int32} {st : AS} (k : F v st) : ∀ (d : Nat) (a0 : Nat) (x1 : Int32) (x2 : Int32) (x3 : Int32) (x4 : Int32), ly κ a0 = (12, 36) → L_R_most_22 κ st  d a0 x1 x2 x3 x4 = some v → V κ M_R_most (RI F) 22 [some (.ref a0), some (.int x1), some (.int x2), some (.int x3), some (.int x4), none] [] st := by
  intro d
  induction d with
  | zero =>
    intro a0 x1 x2 x3 x4 l_a0 h
    exact nn_some h
  | succ d ih =>
    intro a0 x1 x2 x3 x4 l_a0 h
    rw [L_R_most_22] at h
    obtain ⟨v2, h4, h⟩ := bnd_some h
    refine b_R_most_22 (l_a0 := l_a0) (k1 := t_R_sheetOf l_a0 h4 ?_)
    refine b_R_most_31  (k1 := fun e5 => ?_) (k2 := fun e5 => ?_)
    · replace h := if_t e5 h
      exact b_R_most_64  (k1 := lfIP h k)
    · replace h := if_f e5 h
      obtain ⟨v3, h6, h⟩ := bnd_some h
      refine b_R_most_34 (l_a0 := l_a0) (k1 := t_R_besideOf l_a0 h6 ?_)
      have K8 : V κ M_R_most (RI F) 22 [some (.ref a0), some (.int x1), some (.int (if x3 < v3 then x4 else x2 : Int32)), some (.int (if x3 < v3 then v3 else x3 : Int32)), some (.int (x4 + 1)), none] [] st := by
        exact ih _ _ _ _ _ l_a0 h
      refine b_R_most_41  (k1 := fun e9 => ?_) (k2 := fun e9 => ?_)
      · refine b_R_most_52  (k1 := ?_)
        exact (ite_t (P := fun z => V κ M_R_most (RI F) 22 [some (.ref a0), some (.int x1), some (.int x4), some (.int z), some (.int (x4 + 1)), none] [] st) e9 (ite_t (P := fun z => V κ M_R_most (RI F) 22 [some (.ref a0), some (.int x1), some (.int z), some (.int (if x3 < v3 then v3 else x3 : Int32)), some (.int (x4 + 1)), none] [] st) e9 K8))
      · refine b_R_most_49  (k1 := ?_)
        exact (ite_f (P := fun z => V κ M_R_most (RI F) 22 [some (.ref a0), some (.int x1), some (.int x2), some (.int z), some (.int (x4 + 1)), none] [] st) e9 (ite_f (P := fun z => V κ M_R_most (RI F) 22 [some (.ref a0), some (.int x1), some (.int z), some (.int (if x3 < v3 then v3 else x3 : Int32)), some (.int (x4 + 1)), none] [] st) e9 K8))
theorem t_R_most {κ : Ko} {F : Int32 → AS → Prop} {a0 : Nat} {x1 : Int32} {st : AS} {v : Int32} (l_a0 : ly κ a0 = (12, 36)) (h : f_R_most κ a0 x1 st = some v) (k : F v st) : C κ M_R_most [.ref a0, .int x1] st (RI F) := by
  unfold f_R_most at h
  refine e_R_most ?_
  refine b_R_most_0 (l_a0 := l_a0) (k1 := t_R_isSheet l_a0 rfl ?_)
  refine b_R_most_5  (k1 := fun e10 => ?_) (k2 := fun e10 => ?_)
  · replace h := if_f e10 h
    obtain ⟨v1, h11, h⟩ := bnd_some h
    refine b_R_most_10 (l_a0 := l_a0) (k1 := t_R_besideOf l_a0 h11 ?_)
    refine b_R_most_18  (k1 := ?_)
    refine l_R_most_22 k FU _ _ _ _ _ l_a0 h
  · replace h := if_t e10 h
    exact b_R_most_8  (k1 := lfIP h k)
noncomputable def L_R_walks_11 (κ : Ko) (k_31 : Nat → Int32 → Int32 → Int32 → AS → Option (Int32 × AS)) : Nat → Nat → Int32 → Int32 → Int32 → Int32 → AS → Option (Int32 × AS)
  | 0, _, _, _, _, _, _ => none
  | d + 1, a0, x1, x2, x3, x4, st => if x3 ≤ x4 then k_31 a0 x1 x2 x3 st else grd (vp_in x4 200) (L_R_walks_11 κ k_31 d a0 x1 x2 x3 (x4 + 1) (ui st (a0 + 19) (x4 : Int32).toNatClampNeg ((-1))))
noncomputable def L_R_walks_61 (κ : Ko) (k_136 : Nat → Int32 → Int32 → Int32 → Int32 → AS → Option (Int32 × AS)) : Nat → Nat → Int32 → Int32 → Int32 → Int32 → Int32 → AS → Option (Int32 × AS)
  | 0, _, _, _, _, _, _, _ => none
  | d + 1, a0, x1, x3, x4, x5, x6, st => if x3 ≤ x6 then k_136 a0 x1 x3 x4 x5 st else grd (vp_in x6 200) (if 0 ≤ (gi st (a0 + 19) (x6 : Int32).toNatClampNeg) then L_R_walks_61 κ k_136 d a0 x1 x3 x4 x5 (x6 + 1) st else grd (vp_in x5 200) (bnd (f_R_areBeside κ a0 x1 (gi st (a0 + 20) (x5 : Int32).toNatClampNeg) x6 st) (fun v14 => if v14 = 0 then L_R_walks_61 κ k_136 d a0 x1 x3 x4 x5 (x6 + 1) st else grd (vp_in x5 200) (grd (vp_in (gi st (a0 + 20) (x5 : Int32).toNatClampNeg) 200) (grd (vp_in x6 200) (grd (vp_in x4 200) (L_R_walks_61 κ k_136 d a0 x1 x3 (x4 + 1) x5 (x6 + 1) (ui (ui st (a0 + 19) (x6 : Int32).toNatClampNeg ((gi st (a0 + 19) (gi st (a0 + 20) (x5 : Int32).toNatClampNeg : Int32).toNatClampNeg) + 1)) (a0 + 20) (x4 : Int32).toNatClampNeg x6))))))))
noncomputable def L_R_walks_51 (κ : Ko) (k_142 : Nat → Int32 → AS → Option (Int32 × AS)) : Nat → Nat → Int32 → Int32 → Int32 → Int32 → AS → Option (Int32 × AS)
  | 0, _, _, _, _, _, _ => none
  | d + 1, a0, x1, x3, x4, x5, st => if x4 ≤ x5 then k_142 a0 x4 st else L_R_walks_61 κ (fun (v23 : Nat) (v25 : Int32) (v26 : Int32) (v27 : Int32) (v28 : Int32) (s29 : AS) => L_R_walks_51 κ k_142 d v23 v25 v26 v27 (v28 + 1) s29) FU a0 x1 x3 x4 x5 (0 : Int32) st
noncomputable def f_R_walks (κ : Ko) (a0 : Nat) (x1 : Int32) (x2 : Int32) (st : AS) : Option (Int32 × AS) := bnd (f_R_sheetOf κ a0 x1 (6 : Int32) st) (fun v1 => L_R_walks_11 κ (fun (v4 : Nat) (v6 : Int32) (v7 : Int32) (v8 : Int32) (s9 : AS) => grd (vp_in v7 200) (grd (vp_in 0 200) (L_R_walks_51 κ (fun (v31 : Nat) (v33 : Int32) (s34 : AS) => grd (vp_in (v33 - 1) 200) (grd (vp_in (gi s34 (v31 + 20) (v33 - 1 : Int32).toNatClampNeg) 200) (some (gi s34 (v31 + 19) (gi s34 (v31 + 20) (v33 - 1 : Int32).toNatClampNeg : Int32).toNatClampNeg, s34)))) FU v4 v6 v8 (1 : Int32) (0 : Int32) (ui (ui s9 (v4 + 19) (v7 : Int32).toNatClampNeg 0) (v4 + 20) (0 : Int32).toNatClampNeg v7)))) FU a0 x1 x2 v1 (0 : Int32) st)
theorem l_R_walks_11 {κ : Ko} {F : Int32 → AS → Prop} {v : Int32} {s' : AS} (k : F v s') {k_31 : Nat → Int32 → Int32 → Int32 → AS → Option (Int32 × AS)} (hk_31 : ∀ (a0 : Nat) (x1 : Int32) (x2 : Int32) (x3 : Int32) (st : AS), ly κ a0 = (12, 36) → k_31 a0 x1 x2 x3 st = some (v, s') → V κ M_R_walks (RI F) 31 [some (.ref a0), some (.int x1), some (.int x2), some (.int x3), none, none, none] [] st) : ∀ (d : Nat) (a0 : Nat) (x1 : Int32) (x2 : Int32) (x3 : Int32) (x4 : Int32) (st : AS), ly κ a0 = (12, 36) → L_R_walks_11 κ k_31 d a0 x1 x2 x3 x4 st = some (v, s') → V κ M_R_walks (RI F) 11 [some (.ref a0), some (.int x1), some (.int x2), some (.int x3), some (.int x4), none, none] [] st := by
  intro d
  induction d with
  | zero =>
    intro a0 x1 x2 x3 x4 st l_a0 h
    exact nn_some h
  | succ d ih =>
    intro a0 x1 x2 x3 x4 st l_a0 h
    rw [L_R_walks_11] at h
    refine b_R_walks_11  (k1 := fun e3 => ?_) (k2 := fun e3 => ?_)
    · replace h := if_t e3 h
      exact hk_31 _ _ _ _ _ l_a0 h
    · replace h := if_f e3 h
      obtain ⟨h2, h⟩ := grd_some h
      refine b_R_walks_17 (l_a0 := l_a0) (b1 := h2) (k2 := ?_)
      exact ih _ _ _ _ _ _ l_a0 h
theorem l_R_walks_61 {κ : Ko} {F : Int32 → AS → Prop} {v : Int32} {s' : AS} (k : F v s') {k_136 : Nat → Int32 → Int32 → Int32 → Int32 → AS → Option (Int32 × AS)} (hk_136 : ∀ (a0 : Nat) (x1 : Int32) (x3 : Int32) (x4 : Int32) (x5 : Int32) (st : AS), ly κ a0 = (12, 36) → k_136 a0 x1 x3 x4 x5 st = some (v, s') → V κ M_R_walks (RI F) 136 [some (.ref a0), some (.int x1), none, some (.int x3), some (.int x4), some (.int x5), none] [] st) : ∀ (d : Nat) (a0 : Nat) (x1 : Int32) (x3 : Int32) (x4 : Int32) (x5 : Int32) (x6 : Int32) (st : AS), ly κ a0 = (12, 36) → L_R_walks_61 κ k_136 d a0 x1 x3 x4 x5 x6 st = some (v, s') → V κ M_R_walks (RI F) 61 [some (.ref a0), some (.int x1), none, some (.int x3), some (.int x4), some (.int x5), some (.int x6)] [] st := by
  intro d
  induction d with
  | zero =>
    intro a0 x1 x3 x4 x5 x6 st l_a0 h
    exact nn_some h
  | succ d ih =>
    intro a0 x1 x3 x4 x5 x6 st l_a0 h
    rw [L_R_walks_61] at h
    refine b_R_walks_61  (k1 := fun e19 => ?_) (k2 := fun e19 => ?_)
    · replace h := if_t e19 h
      exact hk_136 _ _ _ _ _ _ l_a0 h
    · replace h := if_f e19 h
      obtain ⟨h12, h⟩ := grd_some h
      refine b_R_walks_67 (l_a0 := l_a0) (b1 := h12) (k2 := fun e20 => ?_) (k3 := fun e20 => ?_)
      · replace h := if_t e20 h
        refine b_R_walks_130  (k1 := ?_)
        exact ih _ _ _ _ _ _ _ l_a0 h
      · replace h := if_f e20 h
        obtain ⟨h13, h⟩ := grd_some h
        obtain ⟨v14, h21, h⟩ := bnd_some h
        refine b_R_walks_77 (l_a0 := l_a0) (b1 := h13) (k2 := t_R_areBeside l_a0 h21 ?_)
        refine b_R_walks_91  (k1 := fun e22 => ?_) (k2 := fun e22 => ?_)
        · replace h := if_f e22 h
          obtain ⟨h15, h⟩ := grd_some h
          obtain ⟨h16, h⟩ := grd_some h
          obtain ⟨h17, h⟩ := grd_some h
          obtain ⟨h18, h⟩ := grd_some h
          refine b_R_walks_97 (l_a0 := l_a0) (b1 := h15) (b2 := h16) (b3 := h17) (b4 := h18) (k5 := ?_)
          exact ih _ _ _ _ _ _ _ l_a0 h
        · replace h := if_t e22 h
          refine b_R_walks_94  (k1 := ?_)
          exact ih _ _ _ _ _ _ _ l_a0 h
theorem l_R_walks_51 {κ : Ko} {F : Int32 → AS → Prop} {v : Int32} {s' : AS} (k : F v s') {k_142 : Nat → Int32 → AS → Option (Int32 × AS)} (hk_142 : ∀ (a0 : Nat) (x4 : Int32) (st : AS), ly κ a0 = (12, 36) → k_142 a0 x4 st = some (v, s') → V κ M_R_walks (RI F) 142 [some (.ref a0), none, none, none, some (.int x4), none, none] [] st) : ∀ (d : Nat) (a0 : Nat) (x1 : Int32) (x3 : Int32) (x4 : Int32) (x5 : Int32) (st : AS), ly κ a0 = (12, 36) → L_R_walks_51 κ k_142 d a0 x1 x3 x4 x5 st = some (v, s') → V κ M_R_walks (RI F) 51 [some (.ref a0), some (.int x1), none, some (.int x3), some (.int x4), some (.int x5), none] [] st := by
  intro d
  induction d with
  | zero =>
    intro a0 x1 x3 x4 x5 st l_a0 h
    exact nn_some h
  | succ d ih =>
    intro a0 x1 x3 x4 x5 st l_a0 h
    rw [L_R_walks_51] at h
    refine b_R_walks_51  (k1 := fun e30 => ?_) (k2 := fun e30 => ?_)
    · replace h := if_t e30 h
      exact hk_142 _ _ _ l_a0 h
    · replace h := if_f e30 h
      refine b_R_walks_58  (k1 := ?_)
      refine l_R_walks_61 k ?_ FU _ _ _ _ _ _ _ l_a0 h
      · intro v23 v25 v26 v27 v28 s29 l24 h
        refine b_R_walks_136  (k1 := ?_)
        exact ih _ _ _ _ _ _ l24 h
theorem t_R_walks {κ : Ko} {F : Int32 → AS → Prop} {a0 : Nat} {x1 : Int32} {x2 : Int32} {st : AS} {v : Int32} {s' : AS} (l_a0 : ly κ a0 = (12, 36)) (h : f_R_walks κ a0 x1 x2 st = some (v, s')) (k : F v s') : C κ M_R_walks [.ref a0, .int x1, .int x2] st (RI F) := by
  unfold f_R_walks at h
  refine e_R_walks ?_
  obtain ⟨v1, h37, h⟩ := bnd_some h
  refine b_R_walks_0 (l_a0 := l_a0) (k1 := t_R_sheetOf l_a0 h37 ?_)
  refine b_R_walks_7  (k1 := ?_)
  refine l_R_walks_11 k ?_ FU _ _ _ _ _ _ l_a0 h
  · intro v4 v6 v7 v8 s9 l5 h
    obtain ⟨h10, h⟩ := grd_some h
    obtain ⟨h11, h⟩ := grd_some h
    refine b_R_walks_31 (l_a0 := l5) (b1 := h10) (b2 := h11) (k3 := ?_)
    refine l_R_walks_51 k ?_ FU _ _ _ _ _ _ l5 h
    · intro v31 v33 s34 l32 h
      obtain ⟨h35, h⟩ := grd_some h
      obtain ⟨h36, h⟩ := grd_some h
      exact b_R_walks_142 (l_a0 := l32) (b1 := h35) (b2 := h36) (k3 := lfI h k)
noncomputable def f_R_steps (κ : Ko) (a0 : Nat) (x1 : Int32) (x2 : Int32) (x3 : Int32) (st : AS) : Option (Int32 × AS) := bnd (f_R_isFacet κ a0 x1 x2 st) (fun v1 => jn (some (((-1) : Int32), st)) fun j6 => if v1 = 0 then j6 else bnd (f_R_isFacet κ a0 x1 x3 st) (fun v2 => if v2 = 0 then j6 else bnd2 (f_R_walks κ a0 x1 x2 st) (fun v3 s4 => grd (vp_in x3 200) (some (gi s4 (a0 + 19) (x3 : Int32).toNatClampNeg, s4)))))
theorem t_R_steps {κ : Ko} {F : Int32 → AS → Prop} {a0 : Nat} {x1 : Int32} {x2 : Int32} {x3 : Int32} {st : AS} {v : Int32} {s' : AS} (l_a0 : ly κ a0 = (12, 36)) (h : f_R_steps κ a0 x1 x2 x3 st = some (v, s')) (k : F v s') : C κ M_R_steps [.ref a0, .int x1, .int x2, .int x3] st (RI F) := by
  unfold f_R_steps at h
  refine e_R_steps ?_
  obtain ⟨v1, h7, h⟩ := bnd_some h
  refine b_R_steps_0 (l_a0 := l_a0) (k1 := t_R_isFacet l_a0 h7 ?_)
  obtain ⟨j6, hdj6, h⟩ := jn_some h
  have hj6 : j6 = some (v, s') → V κ M_R_steps (RI F) 18 [none, none, none, none] [] st := by
    intro h
    rw [hdj6] at h
    exact b_R_steps_18  (k1 := lfI h k)
  clear hdj6
  refine b_R_steps_6  (k1 := fun e8 => ?_) (k2 := fun e8 => ?_)
  · replace h := if_t e8 h
    exact hj6  h
  · replace h := if_f e8 h
    obtain ⟨v2, h9, h⟩ := bnd_some h
    refine b_R_steps_9 (l_a0 := l_a0) (k1 := t_R_isFacet l_a0 h9 ?_)
    refine b_R_steps_15  (k1 := fun e10 => ?_) (k2 := fun e10 => ?_)
    · replace h := if_f e10 h
      obtain ⟨v3, s4, h11, h⟩ := bnd2_some h
      refine b_R_steps_20 (l_a0 := l_a0) (k1 := t_R_walks l_a0 h11 ?_)
      obtain ⟨h5, h⟩ := grd_some h
      exact b_R_steps_26 (l_a0 := l_a0) (b1 := h5) (k2 := lfI h k)
    · replace h := if_t e10 h
      exact hj6  h
noncomputable def L_R_heart_28 (κ : Ko) (k_76 : Int32 → Int32 → Int32 → AS → Option (Int32 × AS)) : Nat → Nat → Int32 → Int32 → Int32 → Int32 → Int32 → AS → Option (Int32 × AS)
  | 0, _, _, _, _, _, _, _ => none
  | d + 1, a0, x1, x2, x3, x4, x5, st => bnd (f_R_sheetOf κ a0 x1 (6 : Int32) st) (fun v1 => if v1 ≤ x5 then k_76 x2 x3 x4 st else bnd2 (f_R_walks κ a0 x1 x5 st) (fun v2 s3 => jn (L_R_heart_28 κ k_76 d a0 x1 x2 x5 v2 (x5 + 1) s3) fun j4 => if x3 < 0 then j4 else if v2 < x4 then j4 else L_R_heart_28 κ k_76 d a0 x1 x2 x3 x4 (x5 + 1) s3))
noncomputable def f_R_heart (κ : Ko) (a0 : Nat) (x1 : Int32) (x2 : Int32) (st : AS) : Option (Int32 × AS) := jn (some (((-1) : Int32), st)) fun j14 => if (f_R_isSheet κ a0 x1 st) = 0 then j14 else if (wi ((x2 : Int32).toInt64) (0 : Int64) (1 : Int64)) = 0 then j14 else L_R_heart_28 κ (fun (v10 : Int32) (v11 : Int32) (v12 : Int32) (s13 : AS) => some ((if v10 = 0 then v11 else v12 : Int32), s13)) FU a0 x1 x2 ((-1) : Int32) (0 : Int32) (0 : Int32) st
theorem l_R_heart_28 {κ : Ko} {F : Int32 → AS → Prop} {v : Int32} {s' : AS} (k : F v s') {k_76 : Int32 → Int32 → Int32 → AS → Option (Int32 × AS)} (hk_76 : ∀ (x2 : Int32) (x3 : Int32) (x4 : Int32) (st : AS), k_76 x2 x3 x4 st = some (v, s') → V κ M_R_heart (RI F) 76 [none, none, some (.int x2), some (.int x3), some (.int x4), none, none] [] st) : ∀ (d : Nat) (a0 : Nat) (x1 : Int32) (x2 : Int32) (x3 : Int32) (x4 : Int32) (x5 : Int32) (st : AS), ly κ a0 = (12, 36) → L_R_heart_28 κ k_76 d a0 x1 x2 x3 x4 x5 st = some (v, s') → V κ M_R_heart (RI F) 28 [some (.ref a0), some (.int x1), some (.int x2), some (.int x3), some (.int x4), some (.int x5), none] [] st := by
  intro d
  induction d with
  | zero =>
    intro a0 x1 x2 x3 x4 x5 st l_a0 h
    exact nn_some h
  | succ d ih =>
    intro a0 x1 x2 x3 x4 x5 st l_a0 h
    rw [L_R_heart_28] at h
    obtain ⟨v1, h5, h⟩ := bnd_some h
    refine b_R_heart_28 (l_a0 := l_a0) (k1 := t_R_sheetOf l_a0 h5 ?_)
    refine b_R_heart_37  (k1 := fun e6 => ?_) (k2 := fun e6 => ?_)
    · replace h := if_t e6 h
      exact hk_76 _ _ _ _  h
    · replace h := if_f e6 h
      obtain ⟨v2, s3, h7, h⟩ := bnd2_some h
      refine b_R_heart_40 (l_a0 := l_a0) (k1 := t_R_walks l_a0 h7 ?_)
      obtain ⟨j4, hdj4, h⟩ := jn_some h
      have hj4 : j4 = some (v, s') → V κ M_R_heart (RI F) 63 [some (.ref a0), some (.int x1), some (.int x2), none, none, some (.int x5), some (.int v2)] [] s3 := by
        intro h
        rw [hdj4] at h
        refine b_R_heart_63  (k1 := ?_)
        exact ih _ _ _ _ _ _ _ l_a0 h
      clear hdj4
      refine b_R_heart_47  (k1 := fun e8 => ?_) (k2 := fun e8 => ?_)
      · replace h := if_t e8 h
        exact hj4  h
      · replace h := if_f e8 h
        refine b_R_heart_53  (k1 := fun e9 => ?_) (k2 := fun e9 => ?_)
        · replace h := if_t e9 h
          exact hj4  h
        · replace h := if_f e9 h
          refine b_R_heart_60  (k1 := ?_)
          exact ih _ _ _ _ _ _ _ l_a0 h
theorem t_R_heart {κ : Ko} {F : Int32 → AS → Prop} {a0 : Nat} {x1 : Int32} {x2 : Int32} {st : AS} {v : Int32} {s' : AS} (l_a0 : ly κ a0 = (12, 36)) (h : f_R_heart κ a0 x1 x2 st = some (v, s')) (k : F v s') : C κ M_R_heart [.ref a0, .int x1, .int x2] st (RI F) := by
  unfold f_R_heart at h
  refine e_R_heart ?_
  refine b_R_heart_0 (l_a0 := l_a0) (k1 := t_R_isSheet l_a0 rfl ?_)
  obtain ⟨j14, hdj14, h⟩ := jn_some h
  have hj14 : j14 = some (v, s') → V κ M_R_heart (RI F) 18 [none, none, none, none, none, none, none] [] st := by
    intro h
    rw [hdj14] at h
    exact b_R_heart_18  (k1 := lfI h k)
  clear hdj14
  refine b_R_heart_5  (k1 := fun e15 => ?_) (k2 := fun e15 => ?_)
  · replace h := if_t e15 h
    exact hj14  h
  · replace h := if_f e15 h
    refine b_R_heart_8  (k1 := t_R_in  rfl ?_)
    refine b_R_heart_15  (k1 := fun e16 => ?_) (k2 := fun e16 => ?_)
    · replace h := if_f e16 h
      refine b_R_heart_20  (k1 := ?_)
      refine l_R_heart_28 k ?_ FU _ _ _ _ _ _ _ l_a0 h
      · intro v10 v11 v12 s13 h
        have K18 : (RI F) (some (.int (if v10 = 0 then v11 else v12 : Int32))) s13 := lfI h k
        refine b_R_heart_76  (k1 := fun e19 => ?_) (k2 := fun e19 => ?_)
        · exact b_R_heart_84  (k1 := (ite_f (P := fun z => (RI F) (some (.int z)) s13) e19 K18))
        · exact b_R_heart_80  (k1 := (ite_t (P := fun z => (RI F) (some (.int z)) s13) e19 K18))
    · replace h := if_t e16 h
      exact hj14  h
noncomputable def L_R_copySheet_2 (κ : Ko) : Nat → Nat → Int32 → Int32 → Int32 → AS → Option AS
  | 0, _, _, _, _, _ => none
  | d + 1, a0, x1, x2, x3, st => if 3680 ≤ x3 then some st else grd (vp_in (((3680 : Int32) * x1) + x3) 25760) (grd (vp_in (((3680 : Int32) * x2) + x3) 25760) (L_R_copySheet_2 κ  d a0 x1 x2 (x3 + 1) (ui st (a0 + 14) (((3680 : Int32) * x2) + x3 : Int32).toNatClampNeg (gi st (a0 + 14) (((3680 : Int32) * x1) + x3 : Int32).toNatClampNeg))))
noncomputable def f_R_copySheet (κ : Ko) (a0 : Nat) (x1 : Int32) (x2 : Int32) (st : AS) : Option AS := L_R_copySheet_2 κ  FU a0 x1 x2 (0 : Int32) st
theorem l_R_copySheet_2 {κ : Ko} {F : AS → Prop} {s' : AS} (k : F s') : ∀ (d : Nat) (a0 : Nat) (x1 : Int32) (x2 : Int32) (x3 : Int32) (st : AS), ly κ a0 = (12, 36) → L_R_copySheet_2 κ  d a0 x1 x2 x3 st = some s' → V κ M_R_copySheet (RV F) 2 [some (.ref a0), some (.int x1), some (.int x2), some (.int x3)] [] st := by
  intro d
  induction d with
  | zero =>
    intro a0 x1 x2 x3 st l_a0 h
    exact nn_some h
  | succ d ih =>
    intro a0 x1 x2 x3 st l_a0 h
    rw [L_R_copySheet_2] at h
    refine b_R_copySheet_2  (k1 := fun e3 => ?_) (k2 := fun e3 => ?_)
    · replace h := if_t e3 h
      exact b_R_copySheet_39  (k1 := lfV h k)
    · replace h := if_f e3 h
      obtain ⟨h1, h⟩ := grd_some h
      obtain ⟨h2, h⟩ := grd_some h
      refine b_R_copySheet_9 (l_a0 := l_a0) (b1 := h1) (b2 := h2) (k3 := ?_)
      exact ih _ _ _ _ _ l_a0 h
theorem t_R_copySheet {κ : Ko} {F : AS → Prop} {a0 : Nat} {x1 : Int32} {x2 : Int32} {st : AS} {s' : AS} (l_a0 : ly κ a0 = (12, 36)) (h : f_R_copySheet κ a0 x1 x2 st = some s') (k : F s') : C κ M_R_copySheet [.ref a0, .int x1, .int x2] st (RV F) := by
  unfold f_R_copySheet at h
  refine e_R_copySheet ?_
  refine b_R_copySheet_0  (k1 := ?_)
  refine l_R_copySheet_2 k FU _ _ _ _ _ l_a0 h
noncomputable def f_R_after (κ : Ko) (a0 : Nat) (x1 : Int32) (x2 : Int32) (x3 : Int32) (st : AS) : Option (Int32 × AS) := bnd (f_R_isText κ a0 (1 : Int32) x1 st) (fun v1 => jn (some (((-1) : Int32), st)) fun j7 => if v1 = 0 then j7 else if (f_R_isSheet κ a0 x2 st) = 0 then j7 else if (wi ((x3 : Int32).toInt64) (0 : Int64) (2 : Int64)) = 0 then j7 else bnd (f_R_copySheet κ a0 x2 (6 : Int32) st) (fun s2 => bnd2 (f_R_does κ a0 x1 (6 : Int32) s2) (fun v3 s4 => if x3 = 0 then some (v3, s4) else if x3 = 1 then bnd (f_R_sheetOf κ a0 (6 : Int32) (6 : Int32) s4) (fun v6 => some (v6, s4)) else bnd (f_R_together κ a0 (6 : Int32) s4) (fun v5 => some (v5, s4)))))
theorem t_R_after {κ : Ko} {F : Int32 → AS → Prop} {a0 : Nat} {x1 : Int32} {x2 : Int32} {x3 : Int32} {st : AS} {v : Int32} {s' : AS} (l_a0 : ly κ a0 = (12, 36)) (h : f_R_after κ a0 x1 x2 x3 st = some (v, s')) (k : F v s') : C κ M_R_after [.ref a0, .int x1, .int x2, .int x3] st (RI F) := by
  unfold f_R_after at h
  refine e_R_after ?_
  obtain ⟨v1, h8, h⟩ := bnd_some h
  refine b_R_after_0 (l_a0 := l_a0) (k1 := t_R_isText l_a0 h8 ?_)
  obtain ⟨j7, hdj7, h⟩ := jn_some h
  have hj7 : j7 = some (v, s') → V κ M_R_after (RI F) 29 [none, none, none, none, none] [] st := by
    intro h
    rw [hdj7] at h
    exact b_R_after_29  (k1 := lfI h k)
  clear hdj7
  refine b_R_after_6  (k1 := fun e9 => ?_) (k2 := fun e9 => ?_)
  · replace h := if_t e9 h
    exact hj7  h
  · replace h := if_f e9 h
    refine b_R_after_9 (l_a0 := l_a0) (k1 := t_R_isSheet l_a0 rfl ?_)
    refine b_R_after_14  (k1 := fun e10 => ?_) (k2 := fun e10 => ?_)
    · replace h := if_t e10 h
      exact hj7  h
    · replace h := if_f e10 h
      refine b_R_after_17  (k1 := t_R_in  rfl ?_)
      refine b_R_after_26  (k1 := fun e11 => ?_) (k2 := fun e11 => ?_)
      · replace h := if_f e11 h
        obtain ⟨s2, h12, h⟩ := bnd_some h
        refine b_R_after_31 (l_a0 := l_a0) (k1 := t_R_copySheet l_a0 h12 ?_)
        obtain ⟨v3, s4, h13, h⟩ := bnd2_some h
        refine b_R_after_38 (l_a0 := l_a0) (k1 := t_R_does l_a0 h13 ?_)
        refine b_R_after_45  (k1 := fun e14 => ?_) (k2 := fun e14 => ?_)
        · replace h := if_f e14 h
          refine b_R_after_56  (k1 := fun e15 => ?_) (k2 := fun e15 => ?_)
          · replace h := if_f e15 h
            obtain ⟨v5, h16, h⟩ := bnd_some h
            refine b_R_after_72 (l_a0 := l_a0) (k1 := t_R_together l_a0 h16 ?_)
            exact b_R_after_78  (k1 := lfI h k)
          · replace h := if_t e15 h
            obtain ⟨v6, h17, h⟩ := bnd_some h
            refine b_R_after_61 (l_a0 := l_a0) (k1 := t_R_sheetOf l_a0 h17 ?_)
            exact b_R_after_69  (k1 := lfI h k)
        · replace h := if_t e14 h
          exact b_R_after_51  (k1 := lfI h k)
      · replace h := if_t e11 h
        exact hj7  h
noncomputable def f_R_afresh (κ : Ko) (a0 : Nat) (x1 : Int32) (x2 : Int32) (st : AS) : Option AS := bnd (f_R_sheetOf κ a0 x1 (8 : Int32) st) (fun v1 => bnd (f_R_sheetOf κ a0 x1 (9 : Int32) st) (fun v2 => bnd (f_R_sheetOf κ a0 x1 (2 : Int32) st) (fun v3 => bnd (f_R_sheetOf κ a0 x1 (3 : Int32) st) (fun v4 => bnd (f_R_sheetBegins κ a0 (6 : Int32) v1 v2 v3 v4 x2 st) (fun s5 => some s5)))))
theorem t_R_afresh {κ : Ko} {F : AS → Prop} {a0 : Nat} {x1 : Int32} {x2 : Int32} {st : AS} {s' : AS} (l_a0 : ly κ a0 = (12, 36)) (h : f_R_afresh κ a0 x1 x2 st = some s') (k : F s') : C κ M_R_afresh [.ref a0, .int x1, .int x2] st (RV F) := by
  unfold f_R_afresh at h
  refine e_R_afresh ?_
  obtain ⟨v1, h6, h⟩ := bnd_some h
  refine b_R_afresh_0 (l_a0 := l_a0) (k1 := t_R_sheetOf l_a0 h6 ?_)
  obtain ⟨v2, h7, h⟩ := bnd_some h
  refine b_R_afresh_10 (l_a0 := l_a0) (k1 := t_R_sheetOf l_a0 h7 ?_)
  obtain ⟨v3, h8, h⟩ := bnd_some h
  refine b_R_afresh_17 (l_a0 := l_a0) (k1 := t_R_sheetOf l_a0 h8 ?_)
  obtain ⟨v4, h9, h⟩ := bnd_some h
  refine b_R_afresh_23 (l_a0 := l_a0) (k1 := t_R_sheetOf l_a0 h9 ?_)
  obtain ⟨s5, h10, h⟩ := bnd_some h
  refine b_R_afresh_29 (l_c0 := l_a0) (k1 := t_R_sheetBegins l_a0 h10 ?_)
  exact b_R_afresh_33  (k1 := lfV h k)
noncomputable def L_R_alikeBy_42 (κ : Ko) (k_153 : Nat → Int32 → Int32 → Int32 → Int32 → AS → Option (Int32 × AS)) : Nat → Nat → Int32 → Int32 → Int32 → Int32 → Int32 → AS → Option (Int32 × AS)
  | 0, _, _, _, _, _, _, _ => none
  | d + 1, a0, x1, x3, x4, x5, x6, st => bnd (f_R_sheetOf κ a0 (6 : Int32) (7 : Int32) st) (fun v6 => if v6 ≤ x6 then k_153 a0 x1 x3 x4 x5 st else if x5 = 0 then bnd (f_R_ridgeOf κ a0 x1 x4 (0 : Int32) st) (fun v7 => bnd (f_R_ridgeOf κ a0 (6 : Int32) x6 (0 : Int32) st) (fun v8 => jn (L_R_alikeBy_42 κ k_153 d a0 x1 x3 x4 (0 : Int32) (x6 + 1) st) fun j15 => if v7 = v8 then bnd (f_R_ridgeOf κ a0 x1 x4 (1 : Int32) st) (fun v9 => bnd (f_R_ridgeOf κ a0 (6 : Int32) x6 (1 : Int32) st) (fun v10 => if v9 = v10 then bnd (f_R_ridgeOf κ a0 x1 x4 (2 : Int32) st) (fun v11 => bnd (f_R_ridgeOf κ a0 (6 : Int32) x6 (2 : Int32) st) (fun v12 => if v11 = v12 then bnd (f_R_ridgeOf κ a0 x1 x4 (3 : Int32) st) (fun v13 => bnd (f_R_ridgeOf κ a0 (6 : Int32) x6 (3 : Int32) st) (fun v14 => if v13 = v14 then L_R_alikeBy_42 κ k_153 d a0 x1 x3 x4 (1 : Int32) (x6 + 1) st else j15)) else j15)) else j15)) else j15)) else k_153 a0 x1 x3 x4 x5 st)
noncomputable def L_R_alikeBy_24 (κ : Ko) : Nat → Nat → Int32 → Int32 → Int32 → AS → Option (Int32 × AS)
  | 0, _, _, _, _, _ => none
  | d + 1, a0, x1, x3, x4, st => bnd (f_R_sheetOf κ a0 x1 (7 : Int32) st) (fun v5 => if v5 ≤ x4 then some (x3, st) else L_R_alikeBy_42 κ (fun (v31 : Nat) (v33 : Int32) (v34 : Int32) (v35 : Int32) (v36 : Int32) (s37 : AS) => L_R_alikeBy_24 κ  d v31 v33 (if v36 = 0 then v34 + 0 else v34 + 1 : Int32) (v35 + 1) s37) FU a0 x1 x3 x4 (0 : Int32) (0 : Int32) st)
noncomputable def f_R_alikeBy (κ : Ko) (a0 : Nat) (x1 : Int32) (x2 : Int32) (st : AS) : Option (Int32 × AS) := bnd (f_R_sheetOf κ a0 x1 (3 : Int32) st) (fun v1 => bnd (f_R_afresh κ a0 x1 v1 st) (fun s2 => bnd2 (f_R_does κ a0 x2 (6 : Int32) s2) (fun v3 s4 => L_R_alikeBy_24 κ  FU a0 x1 (0 : Int32) (0 : Int32) s4)))
theorem l_R_alikeBy_42 {κ : Ko} {F : Int32 → AS → Prop} {v : Int32} {s' : AS} (k : F v s') {k_153 : Nat → Int32 → Int32 → Int32 → Int32 → AS → Option (Int32 × AS)} (hk_153 : ∀ (a0 : Nat) (x1 : Int32) (x3 : Int32) (x4 : Int32) (x5 : Int32) (st : AS), ly κ a0 = (12, 36) → k_153 a0 x1 x3 x4 x5 st = some (v, s') → V κ M_R_alikeBy (RI F) 153 [some (.ref a0), some (.int x1), none, some (.int x3), some (.int x4), some (.int x5), none] [] st) : ∀ (d : Nat) (a0 : Nat) (x1 : Int32) (x3 : Int32) (x4 : Int32) (x5 : Int32) (x6 : Int32) (st : AS), ly κ a0 = (12, 36) → L_R_alikeBy_42 κ k_153 d a0 x1 x3 x4 x5 x6 st = some (v, s') → V κ M_R_alikeBy (RI F) 42 [some (.ref a0), some (.int x1), none, some (.int x3), some (.int x4), some (.int x5), some (.int x6)] [] st := by
  intro d
  induction d with
  | zero =>
    intro a0 x1 x3 x4 x5 x6 st l_a0 h
    exact nn_some h
  | succ d ih =>
    intro a0 x1 x3 x4 x5 x6 st l_a0 h
    rw [L_R_alikeBy_42] at h
    obtain ⟨v6, h16, h⟩ := bnd_some h
    refine b_R_alikeBy_42 (l_a0 := l_a0) (k1 := t_R_sheetOf l_a0 h16 ?_)
    refine b_R_alikeBy_52  (k1 := fun e17 => ?_) (k2 := fun e17 => ?_)
    · replace h := if_t e17 h
      exact hk_153 _ _ _ _ _ _ l_a0 h
    · replace h := if_f e17 h
      refine b_R_alikeBy_55  (k1 := fun e18 => ?_) (k2 := fun e18 => ?_)
      · replace h := if_f e18 h
        exact hk_153 _ _ _ _ _ _ l_a0 h
      · replace h := if_t e18 h
        obtain ⟨v7, h19, h⟩ := bnd_some h
        refine b_R_alikeBy_60 (l_a0 := l_a0) (k1 := t_R_ridgeOf l_a0 h19 ?_)
        obtain ⟨v8, h20, h⟩ := bnd_some h
        refine b_R_alikeBy_68 (l_a0 := l_a0) (k1 := t_R_ridgeOf l_a0 h20 ?_)
        obtain ⟨j15, hdj15, h⟩ := jn_some h
        have hj15 : j15 = some (v, s') → V κ M_R_alikeBy (RI F) 144 [some (.ref a0), some (.int x1), none, some (.int x3), some (.int x4), none, some (.int x6)] [] st := by
          intro h
          rw [hdj15] at h
          refine b_R_alikeBy_144  (k1 := ?_)
          exact ih _ _ _ _ _ _ _ l_a0 h
        clear hdj15
        refine b_R_alikeBy_77  (k1 := fun e21 => ?_) (k2 := fun e21 => ?_)
        · replace h := if_f e21 h
          exact hj15  h
        · replace h := if_t e21 h
          obtain ⟨v9, h22, h⟩ := bnd_some h
          refine b_R_alikeBy_80 (l_a0 := l_a0) (k1 := t_R_ridgeOf l_a0 h22 ?_)
          obtain ⟨v10, h23, h⟩ := bnd_some h
          refine b_R_alikeBy_88 (l_a0 := l_a0) (k1 := t_R_ridgeOf l_a0 h23 ?_)
          refine b_R_alikeBy_97  (k1 := fun e24 => ?_) (k2 := fun e24 => ?_)
          · replace h := if_f e24 h
            exact hj15  h
          · replace h := if_t e24 h
            obtain ⟨v11, h25, h⟩ := bnd_some h
            refine b_R_alikeBy_100 (l_a0 := l_a0) (k1 := t_R_ridgeOf l_a0 h25 ?_)
            obtain ⟨v12, h26, h⟩ := bnd_some h
            refine b_R_alikeBy_108 (l_a0 := l_a0) (k1 := t_R_ridgeOf l_a0 h26 ?_)
            refine b_R_alikeBy_117  (k1 := fun e27 => ?_) (k2 := fun e27 => ?_)
            · replace h := if_f e27 h
              exact hj15  h
            · replace h := if_t e27 h
              obtain ⟨v13, h28, h⟩ := bnd_some h
              refine b_R_alikeBy_120 (l_a0 := l_a0) (k1 := t_R_ridgeOf l_a0 h28 ?_)
              obtain ⟨v14, h29, h⟩ := bnd_some h
              refine b_R_alikeBy_128 (l_a0 := l_a0) (k1 := t_R_ridgeOf l_a0 h29 ?_)
              refine b_R_alikeBy_137  (k1 := fun e30 => ?_) (k2 := fun e30 => ?_)
              · replace h := if_f e30 h
                exact hj15  h
              · replace h := if_t e30 h
                refine b_R_alikeBy_140  (k1 := ?_)
                exact ih _ _ _ _ _ _ _ l_a0 h
theorem l_R_alikeBy_24 {κ : Ko} {F : Int32 → AS → Prop} {v : Int32} {s' : AS} (k : F v s') : ∀ (d : Nat) (a0 : Nat) (x1 : Int32) (x3 : Int32) (x4 : Int32) (st : AS), ly κ a0 = (12, 36) → L_R_alikeBy_24 κ  d a0 x1 x3 x4 st = some (v, s') → V κ M_R_alikeBy (RI F) 24 [some (.ref a0), some (.int x1), none, some (.int x3), some (.int x4), none, none] [] st := by
  intro d
  induction d with
  | zero =>
    intro a0 x1 x3 x4 st l_a0 h
    exact nn_some h
  | succ d ih =>
    intro a0 x1 x3 x4 st l_a0 h
    rw [L_R_alikeBy_24] at h
    obtain ⟨v5, h38, h⟩ := bnd_some h
    refine b_R_alikeBy_24 (l_a0 := l_a0) (k1 := t_R_sheetOf l_a0 h38 ?_)
    refine b_R_alikeBy_33  (k1 := fun e39 => ?_) (k2 := fun e39 => ?_)
    · replace h := if_t e39 h
      exact b_R_alikeBy_172  (k1 := lfI h k)
    · replace h := if_f e39 h
      refine b_R_alikeBy_36  (k1 := ?_)
      refine l_R_alikeBy_42 k ?_ FU _ _ _ _ _ _ _ l_a0 h
      · intro v31 v33 v34 v35 v36 s37 l32 h
        have K41 : V κ M_R_alikeBy (RI F) 24 [some (.ref v31), some (.int v33), none, some (.int (if v36 = 0 then v34 + 0 else v34 + 1 : Int32)), some (.int (v35 + 1)), none, none] [] s37 := by
          exact ih _ _ _ _ _ l32 h
        refine b_R_alikeBy_153  (k1 := fun e42 => ?_) (k2 := fun e42 => ?_)
        · refine b_R_alikeBy_163  (k1 := ?_)
          exact (ite_t (P := fun z => V κ M_R_alikeBy (RI F) 24 [some (.ref v31), some (.int v33), none, some (.int z), some (.int (v35 + 1)), none, none] [] s37) e42 K41)
        · refine b_R_alikeBy_159  (k1 := ?_)
          exact (ite_f (P := fun z => V κ M_R_alikeBy (RI F) 24 [some (.ref v31), some (.int v33), none, some (.int z), some (.int (v35 + 1)), none, none] [] s37) e42 K41)
theorem t_R_alikeBy {κ : Ko} {F : Int32 → AS → Prop} {a0 : Nat} {x1 : Int32} {x2 : Int32} {st : AS} {v : Int32} {s' : AS} (l_a0 : ly κ a0 = (12, 36)) (h : f_R_alikeBy κ a0 x1 x2 st = some (v, s')) (k : F v s') : C κ M_R_alikeBy [.ref a0, .int x1, .int x2] st (RI F) := by
  unfold f_R_alikeBy at h
  refine e_R_alikeBy ?_
  obtain ⟨v1, h43, h⟩ := bnd_some h
  refine b_R_alikeBy_0 (l_a0 := l_a0) (k1 := t_R_sheetOf l_a0 h43 ?_)
  obtain ⟨s2, h44, h⟩ := bnd_some h
  refine b_R_alikeBy_8 (l_c0 := l_a0) (k1 := t_R_afresh l_a0 h44 ?_)
  obtain ⟨v3, s4, h45, h⟩ := bnd2_some h
  refine b_R_alikeBy_11 (l_a0 := l_a0) (k1 := t_R_does l_a0 h45 ?_)
  refine b_R_alikeBy_18  (k1 := ?_)
  refine l_R_alikeBy_24 k FU _ _ _ _ _ l_a0 h
noncomputable def f_R_alike (κ : Ko) (a0 : Nat) (x1 : Int32) (x2 : Int32) (st : AS) : Option (Int32 × AS) := jn (some (((-1) : Int32), st)) fun j4 => if (f_R_isSheet κ a0 x1 st) = 0 then j4 else bnd (f_R_isText κ a0 (1 : Int32) x2 st) (fun v1 => if v1 = 0 then j4 else bnd2 (f_R_alikeBy κ a0 x1 x2 st) (fun v2 s3 => some (v2, s3)))
theorem t_R_alike {κ : Ko} {F : Int32 → AS → Prop} {a0 : Nat} {x1 : Int32} {x2 : Int32} {st : AS} {v : Int32} {s' : AS} (l_a0 : ly κ a0 = (12, 36)) (h : f_R_alike κ a0 x1 x2 st = some (v, s')) (k : F v s') : C κ M_R_alike [.ref a0, .int x1, .int x2] st (RI F) := by
  unfold f_R_alike at h
  refine e_R_alike ?_
  refine b_R_alike_0 (l_a0 := l_a0) (k1 := t_R_isSheet l_a0 rfl ?_)
  obtain ⟨j4, hdj4, h⟩ := jn_some h
  have hj4 : j4 = some (v, s') → V κ M_R_alike (RI F) 26 [none, none, none] [] st := by
    intro h
    rw [hdj4] at h
    exact b_R_alike_26  (k1 := lfI h k)
  clear hdj4
  refine b_R_alike_5  (k1 := fun e5 => ?_) (k2 := fun e5 => ?_)
  · replace h := if_t e5 h
    exact hj4  h
  · replace h := if_f e5 h
    obtain ⟨v1, h6, h⟩ := bnd_some h
    refine b_R_alike_8 (l_a0 := l_a0) (k1 := t_R_isText l_a0 h6 ?_)
    refine b_R_alike_14  (k1 := fun e7 => ?_) (k2 := fun e7 => ?_)
    · replace h := if_t e7 h
      exact hj4  h
    · replace h := if_f e7 h
      obtain ⟨v2, s3, h8, h⟩ := bnd2_some h
      refine b_R_alike_17 (l_a0 := l_a0) (k1 := t_R_alikeBy l_a0 h8 ?_)
      exact b_R_alike_23  (k1 := lfI h k)
noncomputable def L_R_which_18 (κ : Ko) : Nat → Nat → Int32 → Int32 → Int32 → Int32 → AS → Option (Int32 × AS)
  | 0, _, _, _, _, _, _ => none
  | d + 1, a0, x1, x2, x3, x4, st => grd (vp_in 1 4) (if (gi st (a0 + 2) (1 : Int32).toNatClampNeg) ≤ x4 then some (x2, st) else bnd2 (f_R_alikeBy κ a0 x1 x4 st) (fun v2 s3 => jn (L_R_which_18 κ  d a0 x1 x4 v2 (x4 + 1) s3) fun j4 => if x2 < 0 then j4 else if x3 < v2 then j4 else L_R_which_18 κ  d a0 x1 x2 x3 (x4 + 1) s3))
noncomputable def f_R_which (κ : Ko) (a0 : Nat) (x1 : Int32) (st : AS) : Option (Int32 × AS) := if (f_R_isSheet κ a0 x1 st) = 0 then some (((-1) : Int32), st) else L_R_which_18 κ  FU a0 x1 ((-2) : Int32) (0 : Int32) (0 : Int32) st
theorem l_R_which_18 {κ : Ko} {F : Int32 → AS → Prop} {v : Int32} {s' : AS} (k : F v s') : ∀ (d : Nat) (a0 : Nat) (x1 : Int32) (x2 : Int32) (x3 : Int32) (x4 : Int32) (st : AS), ly κ a0 = (12, 36) → L_R_which_18 κ  d a0 x1 x2 x3 x4 st = some (v, s') → V κ M_R_which (RI F) 18 [some (.ref a0), some (.int x1), some (.int x2), some (.int x3), some (.int x4), none] [] st := by
  intro d
  induction d with
  | zero =>
    intro a0 x1 x2 x3 x4 st l_a0 h
    exact nn_some h
  | succ d ih =>
    intro a0 x1 x2 x3 x4 st l_a0 h
    rw [L_R_which_18] at h
    obtain ⟨h1, h⟩ := grd_some h
    refine b_R_which_18 (l_a0 := l_a0) (b1 := h1) (k2 := fun e5 => ?_) (k3 := fun e5 => ?_)
    · replace h := if_t e5 h
      exact b_R_which_63  (k1 := lfI h k)
    · replace h := if_f e5 h
      obtain ⟨v2, s3, h6, h⟩ := bnd2_some h
      refine b_R_which_29 (l_a0 := l_a0) (k1 := t_R_alikeBy l_a0 h6 ?_)
      obtain ⟨j4, hdj4, h⟩ := jn_some h
      have hj4 : j4 = some (v, s') → V κ M_R_which (RI F) 51 [some (.ref a0), some (.int x1), none, none, some (.int x4), some (.int v2)] [] s3 := by
        intro h
        rw [hdj4] at h
        refine b_R_which_51  (k1 := ?_)
        exact ih _ _ _ _ _ _ l_a0 h
      clear hdj4
      refine b_R_which_36  (k1 := fun e7 => ?_) (k2 := fun e7 => ?_)
      · replace h := if_t e7 h
        exact hj4  h
      · replace h := if_f e7 h
        refine b_R_which_42  (k1 := fun e8 => ?_) (k2 := fun e8 => ?_)
        · replace h := if_t e8 h
          exact hj4  h
        · replace h := if_f e8 h
          refine b_R_which_48  (k1 := ?_)
          exact ih _ _ _ _ _ _ l_a0 h
theorem t_R_which {κ : Ko} {F : Int32 → AS → Prop} {a0 : Nat} {x1 : Int32} {st : AS} {v : Int32} {s' : AS} (l_a0 : ly κ a0 = (12, 36)) (h : f_R_which κ a0 x1 st = some (v, s')) (k : F v s') : C κ M_R_which [.ref a0, .int x1] st (RI F) := by
  unfold f_R_which at h
  refine e_R_which ?_
  refine b_R_which_0 (l_a0 := l_a0) (k1 := t_R_isSheet l_a0 rfl ?_)
  refine b_R_which_5  (k1 := fun e9 => ?_) (k2 := fun e9 => ?_)
  · replace h := if_f e9 h
    refine b_R_which_10  (k1 := ?_)
    refine l_R_which_18 k FU _ _ _ _ _ _ l_a0 h
  · replace h := if_t e9 h
    exact b_R_which_8  (k1 := lfI h k)
noncomputable def L_R_runs_72 (κ : Ko) : Nat → Nat → Int32 → Int32 → Int32 → Int32 → Int32 → Int32 → AS → Option (Int32 × AS)
  | 0, _, _, _, _, _, _, _, _ => none
  | d + 1, a0, x1, x2, x4, x5, x7, x8, st => bnd2 (f_R_does κ a0 x1 (6 : Int32) st) (fun v3 s4 => bnd (f_R_together κ a0 (6 : Int32) s4) (fun v5 => bnd (f_R_sheetOf κ a0 (6 : Int32) (4 : Int32) s4) (fun v6 => if x4 ≤ (x8 + 1) then some ((x7 + (if v5 < x5 then (0 : Int32) else (1 : Int32) : Int32)), s4) else bnd (f_R_afresh κ a0 x2 v6 s4) (fun s7 => L_R_runs_72 κ  d a0 x1 x2 x4 x5 (x7 + (if v5 < x5 then (0 : Int32) else (1 : Int32) : Int32)) (x8 + 1) s7))))
noncomputable def f_R_runs (κ : Ko) (a0 : Nat) (x1 : Int32) (x2 : Int32) (x3 : Int32) (x4 : Int32) (x5 : Int32) (st : AS) : Option (Int32 × AS) := bnd (f_R_isText κ a0 (1 : Int32) x1 st) (fun v1 => jn (some (((-1) : Int32), st)) fun j16 => if v1 = 0 then j16 else if (f_R_isSheet κ a0 x2 st) = 0 then j16 else if x3 < 0 then j16 else if (wi ((x4 : Int32).toInt64) (1 : Int64) (10 : Int64)) = 0 then j16 else if (wi ((x5 : Int32).toInt64) (0 : Int64) (99999 : Int64)) = 0 then j16 else if x4 ≤ (0 : Int32) then some ((0 : Int32), st) else bnd (f_R_afresh κ a0 x2 x3 st) (fun s2 => L_R_runs_72 κ  FU a0 x1 x2 x4 x5 (0 : Int32) (0 : Int32) s2))
theorem l_R_runs_72 {κ : Ko} {F : Int32 → AS → Prop} {v : Int32} {s' : AS} (k : F v s') : ∀ (d : Nat) (a0 : Nat) (x1 : Int32) (x2 : Int32) (x4 : Int32) (x5 : Int32) (x7 : Int32) (x8 : Int32) (st : AS), ly κ a0 = (12, 36) → L_R_runs_72 κ  d a0 x1 x2 x4 x5 x7 x8 st = some (v, s') → V κ M_R_runs (RI F) 72 [some (.ref a0), some (.int x1), some (.int x2), none, some (.int x4), some (.int x5), none, some (.int x7), some (.int x8)] [] st := by
  intro d
  induction d with
  | zero =>
    intro a0 x1 x2 x4 x5 x7 x8 st l_a0 h
    exact nn_some h
  | succ d ih =>
    intro a0 x1 x2 x4 x5 x7 x8 st l_a0 h
    rw [L_R_runs_72] at h
    obtain ⟨v3, s4, h8, h⟩ := bnd2_some h
    refine b_R_runs_72 (l_a0 := l_a0) (k1 := t_R_does l_a0 h8 ?_)
    obtain ⟨v5, h9, h⟩ := bnd_some h
    refine b_R_runs_79 (l_a0 := l_a0) (k1 := t_R_together l_a0 h9 ?_)
    have K11 : V κ M_R_runs (RI F) 98 [some (.ref a0), some (.int x1), some (.int x2), none, some (.int x4), some (.int x5), none, none, some (.int x8)] [.int (if v5 < x5 then (0 : Int32) else (1 : Int32) : Int32), .int x7] s4 := by
      obtain ⟨v6, h12, h⟩ := bnd_some h
      refine b_R_runs_98 (l_a0 := l_a0) (k1 := t_R_sheetOf l_a0 h12 ?_)
      refine b_R_runs_108  (k1 := ?_)
      refine b_R_runs_58_v1  (k1 := fun e13 => ?_) (k2 := fun e13 => ?_)
      · replace h := if_t e13 h
        exact b_R_runs_116  (k1 := lfI h k)
      · replace h := if_f e13 h
        obtain ⟨s7, h14, h⟩ := bnd_some h
        refine b_R_runs_65_v1 (l_a0 := l_a0) (k1 := t_R_afresh l_a0 h14 ?_)
        exact ih _ _ _ _ _ _ _ _ l_a0 h
    refine b_R_runs_88  (k1 := fun e15 => ?_) (k2 := fun e15 => ?_)
    · refine b_R_runs_97  (k1 := ?_)
      exact (ite_t (P := fun z => V κ M_R_runs (RI F) 98 [some (.ref a0), some (.int x1), some (.int x2), none, some (.int x4), some (.int x5), none, none, some (.int x8)] [.int z, .int x7] s4) e15 K11)
    · refine b_R_runs_93  (k1 := ?_)
      exact (ite_f (P := fun z => V κ M_R_runs (RI F) 98 [some (.ref a0), some (.int x1), some (.int x2), none, some (.int x4), some (.int x5), none, none, some (.int x8)] [.int z, .int x7] s4) e15 K11)
theorem t_R_runs {κ : Ko} {F : Int32 → AS → Prop} {a0 : Nat} {x1 : Int32} {x2 : Int32} {x3 : Int32} {x4 : Int32} {x5 : Int32} {st : AS} {v : Int32} {s' : AS} (l_a0 : ly κ a0 = (12, 36)) (h : f_R_runs κ a0 x1 x2 x3 x4 x5 st = some (v, s')) (k : F v s') : C κ M_R_runs [.ref a0, .int x1, .int x2, .int x3, .int x4, .int x5] st (RI F) := by
  unfold f_R_runs at h
  refine e_R_runs ?_
  obtain ⟨v1, h17, h⟩ := bnd_some h
  refine b_R_runs_0 (l_a0 := l_a0) (k1 := t_R_isText l_a0 h17 ?_)
  obtain ⟨j16, hdj16, h⟩ := jn_some h
  have hj16 : j16 = some (v, s') → V κ M_R_runs (RI F) 47 [none, none, none, none, none, none, none, none, none] [] st := by
    intro h
    rw [hdj16] at h
    exact b_R_runs_47  (k1 := lfI h k)
  clear hdj16
  refine b_R_runs_6  (k1 := fun e18 => ?_) (k2 := fun e18 => ?_)
  · replace h := if_t e18 h
    exact hj16  h
  · replace h := if_f e18 h
    refine b_R_runs_9 (l_a0 := l_a0) (k1 := t_R_isSheet l_a0 rfl ?_)
    refine b_R_runs_14  (k1 := fun e19 => ?_) (k2 := fun e19 => ?_)
    · replace h := if_t e19 h
      exact hj16  h
    · replace h := if_f e19 h
      refine b_R_runs_17  (k1 := fun e20 => ?_) (k2 := fun e20 => ?_)
      · replace h := if_t e20 h
        exact hj16  h
      · replace h := if_f e20 h
        refine b_R_runs_21  (k1 := t_R_in  rfl ?_)
        refine b_R_runs_31  (k1 := fun e21 => ?_) (k2 := fun e21 => ?_)
        · replace h := if_t e21 h
          exact hj16  h
        · replace h := if_f e21 h
          refine b_R_runs_34  (k1 := t_R_in  rfl ?_)
          refine b_R_runs_44  (k1 := fun e22 => ?_) (k2 := fun e22 => ?_)
          · replace h := if_f e22 h
            refine b_R_runs_49  (k1 := ?_)
            refine b_R_runs_58_v0  (k1 := fun e23 => ?_) (k2 := fun e23 => ?_)
            · replace h := if_t e23 h
              exact b_R_runs_116  (k1 := lfI h k)
            · replace h := if_f e23 h
              obtain ⟨s2, h24, h⟩ := bnd_some h
              refine b_R_runs_65_v0 (l_a0 := l_a0) (k1 := t_R_afresh l_a0 h24 ?_)
              refine l_R_runs_72 k FU _ _ _ _ _ _ _ _ l_a0 h
          · replace h := if_t e22 h
            exact hj16  h
noncomputable def L_R_isFine_2 (κ : Ko) (st : AS) : Nat → Nat → Int32 → Int32 → Int32 → Option Int32
  | 0, _, _, _, _ => none
  | d + 1, a0, x1, x2, x3 => bnd (f_R_sheetOf κ a0 x1 (6 : Int32) st) (fun v1 => if v1 ≤ x3 then some (1 : Int32) else bnd (f_R_longSide κ a0 x1 x3 st) (fun v2 => if v2 ≤ x2 then L_R_isFine_2 κ st  d a0 x1 x2 (x3 + 1) else some (0 : Int32)))
noncomputable def f_R_isFine (κ : Ko) (a0 : Nat) (x1 : Int32) (x2 : Int32) (st : AS) : Option Int32 := L_R_isFine_2 κ st  FU a0 x1 x2 (0 : Int32)
theorem l_R_isFine_2 {κ : Ko} {F : Int32 → AS → Prop} {v : Int32} {st : AS} (k : F v st) : ∀ (d : Nat) (a0 : Nat) (x1 : Int32) (x2 : Int32) (x3 : Int32), ly κ a0 = (12, 36) → L_R_isFine_2 κ st  d a0 x1 x2 x3 = some v → V κ M_R_isFine (RI F) 2 [some (.ref a0), some (.int x1), some (.int x2), some (.int x3)] [] st := by
  intro d
  induction d with
  | zero =>
    intro a0 x1 x2 x3 l_a0 h
    exact nn_some h
  | succ d ih =>
    intro a0 x1 x2 x3 l_a0 h
    rw [L_R_isFine_2] at h
    obtain ⟨v1, h3, h⟩ := bnd_some h
    refine b_R_isFine_2 (l_a0 := l_a0) (k1 := t_R_sheetOf l_a0 h3 ?_)
    refine b_R_isFine_10  (k1 := fun e4 => ?_) (k2 := fun e4 => ?_)
    · replace h := if_t e4 h
      exact b_R_isFine_31  (k1 := lfIP h k)
    · replace h := if_f e4 h
      obtain ⟨v2, h5, h⟩ := bnd_some h
      refine b_R_isFine_13 (l_a0 := l_a0) (k1 := t_R_longSide l_a0 h5 ?_)
      refine b_R_isFine_19  (k1 := fun e6 => ?_) (k2 := fun e6 => ?_)
      · replace h := if_t e6 h
        refine b_R_isFine_25  (k1 := ?_)
        exact ih _ _ _ _ l_a0 h
      · replace h := if_f e6 h
        exact b_R_isFine_23  (k1 := lfIP h k)
theorem t_R_isFine {κ : Ko} {F : Int32 → AS → Prop} {a0 : Nat} {x1 : Int32} {x2 : Int32} {st : AS} {v : Int32} (l_a0 : ly κ a0 = (12, 36)) (h : f_R_isFine κ a0 x1 x2 st = some v) (k : F v st) : C κ M_R_isFine [.ref a0, .int x1, .int x2] st (RI F) := by
  unfold f_R_isFine at h
  refine e_R_isFine ?_
  refine b_R_isFine_0  (k1 := ?_)
  refine l_R_isFine_2 k FU _ _ _ _ l_a0 h
noncomputable def L_R_until_44 (κ : Ko) : Nat → Nat → Int32 → Int32 → Int32 → AS → Option (Int32 × AS)
  | 0, _, _, _, _, _ => none
  | d + 1, a0, x2, x3, x4, st => bnd (f_R_isFine κ a0 (6 : Int32) x3 st) (fun v2 => if v2 = 0 then bnd (f_R_sheetOf κ a0 (6 : Int32) (5 : Int32) st) (fun v3 => if v3 = 60 then some (((-2) : Int32), st) else bnd2 (f_R_presses κ a0 (6 : Int32) x2 st) (fun v4 s5 => L_R_until_44 κ  d a0 x2 x3 (x4 + 1) s5)) else some (x4, st))
noncomputable def f_R_until (κ : Ko) (a0 : Nat) (x1 : Int32) (x2 : Int32) (x3 : Int32) (st : AS) : Option (Int32 × AS) := jn (some (((-1) : Int32), st)) fun j11 => if (f_R_isSheet κ a0 x1 st) = 0 then j11 else if (wi ((x2 : Int32).toInt64) (1 : Int64) (99 : Int64)) = 0 then j11 else if (wi ((x3 : Int32).toInt64) (1 : Int64) (200 : Int64)) = 0 then j11 else bnd (f_R_copySheet κ a0 x1 (6 : Int32) st) (fun s1 => L_R_until_44 κ  FU a0 x2 x3 (0 : Int32) s1)
theorem l_R_until_44 {κ : Ko} {F : Int32 → AS → Prop} {v : Int32} {s' : AS} (k : F v s') : ∀ (d : Nat) (a0 : Nat) (x2 : Int32) (x3 : Int32) (x4 : Int32) (st : AS), ly κ a0 = (12, 36) → L_R_until_44 κ  d a0 x2 x3 x4 st = some (v, s') → V κ M_R_until (RI F) 44 [some (.ref a0), none, some (.int x2), some (.int x3), some (.int x4)] [] st := by
  intro d
  induction d with
  | zero =>
    intro a0 x2 x3 x4 st l_a0 h
    exact nn_some h
  | succ d ih =>
    intro a0 x2 x3 x4 st l_a0 h
    rw [L_R_until_44] at h
    obtain ⟨v2, h6, h⟩ := bnd_some h
    refine b_R_until_44 (l_a0 := l_a0) (k1 := t_R_isFine l_a0 h6 ?_)
    refine b_R_until_51  (k1 := fun e7 => ?_) (k2 := fun e7 => ?_)
    · replace h := if_f e7 h
      exact b_R_until_83  (k1 := lfI h k)
    · replace h := if_t e7 h
      obtain ⟨v3, h8, h⟩ := bnd_some h
      refine b_R_until_54 (l_a0 := l_a0) (k1 := t_R_sheetOf l_a0 h8 ?_)
      refine b_R_until_61  (k1 := fun e9 => ?_) (k2 := fun e9 => ?_)
      · replace h := if_f e9 h
        obtain ⟨v4, s5, h10, h⟩ := bnd2_some h
        refine b_R_until_69 (l_a0 := l_a0) (k1 := t_R_presses l_a0 h10 ?_)
        refine b_R_until_76  (k1 := ?_)
        exact ih _ _ _ _ _ l_a0 h
      · replace h := if_t e9 h
        exact b_R_until_66  (k1 := lfI h k)
theorem t_R_until {κ : Ko} {F : Int32 → AS → Prop} {a0 : Nat} {x1 : Int32} {x2 : Int32} {x3 : Int32} {st : AS} {v : Int32} {s' : AS} (l_a0 : ly κ a0 = (12, 36)) (h : f_R_until κ a0 x1 x2 x3 st = some (v, s')) (k : F v s') : C κ M_R_until [.ref a0, .int x1, .int x2, .int x3] st (RI F) := by
  unfold f_R_until at h
  refine e_R_until ?_
  refine b_R_until_0 (l_a0 := l_a0) (k1 := t_R_isSheet l_a0 rfl ?_)
  obtain ⟨j11, hdj11, h⟩ := jn_some h
  have hj11 : j11 = some (v, s') → V κ M_R_until (RI F) 32 [none, none, none, none, none] [] st := by
    intro h
    rw [hdj11] at h
    exact b_R_until_32  (k1 := lfI h k)
  clear hdj11
  refine b_R_until_5  (k1 := fun e12 => ?_) (k2 := fun e12 => ?_)
  · replace h := if_t e12 h
    exact hj11  h
  · replace h := if_f e12 h
    refine b_R_until_8  (k1 := t_R_in  rfl ?_)
    refine b_R_until_17  (k1 := fun e13 => ?_) (k2 := fun e13 => ?_)
    · replace h := if_t e13 h
      exact hj11  h
    · replace h := if_f e13 h
      refine b_R_until_20  (k1 := t_R_in  rfl ?_)
      refine b_R_until_29  (k1 := fun e14 => ?_) (k2 := fun e14 => ?_)
      · replace h := if_f e14 h
        obtain ⟨s1, h15, h⟩ := bnd_some h
        refine b_R_until_34 (l_a0 := l_a0) (k1 := t_R_copySheet l_a0 h15 ?_)
        refine b_R_until_41  (k1 := ?_)
        refine l_R_until_44 k FU _ _ _ _ _ l_a0 h
      · replace h := if_t e14 h
        exact hj11  h
noncomputable def L_R_halves_28 (κ : Ko) (st : AS) (k_41 : Int32 → Int32 → Option Int32) : Nat → Int32 → Int32 → Int32 → Option Int32
  | 0, _, _, _ => none
  | d + 1, x1, x2, x3 => if x1 ≤ (1 <<< ((x3 : Int32) &&& 31)) then k_41 x2 x3 else L_R_halves_28 κ st k_41 d x1 x2 (x3 + 1)
noncomputable def L_R_halves_44 (κ : Ko) (st : AS) : Nat → Int32 → Int32 → Int32 → Option Int32
  | 0, _, _, _ => none
  | d + 1, x2, x3, x4 => if x2 ≤ (1 <<< ((x4 : Int32) &&& 31)) then some (x3 + x4) else L_R_halves_44 κ st  d x2 x3 (x4 + 1)
noncomputable def f_R_halves (κ : Ko) (a0 : Nat) (x1 : Int32) (x2 : Int32) (st : AS) : Option Int32 := jn (some ((-1) : Int32)) fun j5 => if (wi ((x1 : Int32).toInt64) (1 : Int64) (999 : Int64)) = 0 then j5 else if (wi ((x2 : Int32).toInt64) (1 : Int64) (999 : Int64)) = 0 then j5 else L_R_halves_28 κ st (fun (v2 : Int32) (v3 : Int32) => L_R_halves_44 κ st  FU v2 v3 (0 : Int32)) FU x1 x2 (0 : Int32)
theorem l_R_halves_28 {κ : Ko} {F : Int32 → AS → Prop} {v : Int32} {st : AS} (k : F v st) {k_41 : Int32 → Int32 → Option Int32} (hk_41 : ∀ (x2 : Int32) (x3 : Int32), k_41 x2 x3 = some v → V κ M_R_halves (RI F) 41 [none, none, some (.int x2), some (.int x3), none] [] st) : ∀ (d : Nat) (x1 : Int32) (x2 : Int32) (x3 : Int32), L_R_halves_28 κ st k_41 d x1 x2 x3 = some v → V κ M_R_halves (RI F) 28 [none, some (.int x1), some (.int x2), some (.int x3), none] [] st := by
  intro d
  induction d with
  | zero =>
    intro x1 x2 x3 h
    exact nn_some h
  | succ d ih =>
    intro x1 x2 x3 h
    rw [L_R_halves_28] at h
    refine b_R_halves_28  (k1 := fun e1 => ?_) (k2 := fun e1 => ?_)
    · replace h := if_t e1 h
      exact hk_41 _ _  h
    · replace h := if_f e1 h
      refine b_R_halves_35  (k1 := ?_)
      exact ih _ _ _  h
theorem l_R_halves_44 {κ : Ko} {F : Int32 → AS → Prop} {v : Int32} {st : AS} (k : F v st) : ∀ (d : Nat) (x2 : Int32) (x3 : Int32) (x4 : Int32), L_R_halves_44 κ st  d x2 x3 x4 = some v → V κ M_R_halves (RI F) 44 [none, none, some (.int x2), some (.int x3), some (.int x4)] [] st := by
  intro d
  induction d with
  | zero =>
    intro x2 x3 x4 h
    exact nn_some h
  | succ d ih =>
    intro x2 x3 x4 h
    rw [L_R_halves_44] at h
    refine b_R_halves_44  (k1 := fun e4 => ?_) (k2 := fun e4 => ?_)
    · replace h := if_t e4 h
      exact b_R_halves_58  (k1 := lfIP h k)
    · replace h := if_f e4 h
      refine b_R_halves_52  (k1 := ?_)
      exact ih _ _ _  h
theorem t_R_halves {κ : Ko} {F : Int32 → AS → Prop} {a0 : Nat} {x1 : Int32} {x2 : Int32} {st : AS} {v : Int32} (l_a0 : ly κ a0 = (12, 36)) (h : f_R_halves κ a0 x1 x2 st = some v) (k : F v st) : C κ M_R_halves [.ref a0, .int x1, .int x2] st (RI F) := by
  unfold f_R_halves at h
  refine e_R_halves ?_
  refine b_R_halves_0  (k1 := t_R_in  rfl ?_)
  obtain ⟨j5, hdj5, h⟩ := jn_some h
  have hj5 : j5 = some v → V κ M_R_halves (RI F) 24 [none, none, none, none, none] [] st := by
    intro h
    rw [hdj5] at h
    exact b_R_halves_24  (k1 := lfIP h k)
  clear hdj5
  refine b_R_halves_9  (k1 := fun e6 => ?_) (k2 := fun e6 => ?_)
  · replace h := if_t e6 h
    exact hj5  h
  · replace h := if_f e6 h
    refine b_R_halves_12  (k1 := t_R_in  rfl ?_)
    refine b_R_halves_21  (k1 := fun e7 => ?_) (k2 := fun e7 => ?_)
    · replace h := if_f e7 h
      refine b_R_halves_26  (k1 := ?_)
      refine l_R_halves_28 k ?_ FU _ _ _  h
      · intro v2 v3 h
        refine b_R_halves_41  (k1 := ?_)
        refine l_R_halves_44 k FU _ _ _  h
    · replace h := if_t e7 h
      exact hj5  h
noncomputable def L_R_count_64 (κ : Ko) (st : AS) : Nat → Nat → Int32 → Int32 → Int32 → Option Int32
  | 0, _, _, _, _ => none
  | d + 1, a0, x1, x2, x3 => if (gi st a0 24) ≤ x3 then some x2 else bnd (f_R_sheetOf κ a0 x3 (x1 + 1) st) (fun v2 => L_R_count_64 κ st  d a0 x1 (x2 + v2) (x3 + 1))
noncomputable def f_R_count (κ : Ko) (a0 : Nat) (x1 : Int32) (st : AS) : Option Int32 := jn (grd (vp_in (x1 - 1) 4) (some (gi st (a0 + 2) (x1 - 1 : Int32).toNatClampNeg))) fun j5 => jn (L_R_count_64 κ st  FU a0 x1 (0 : Int32) (0 : Int32)) fun j1 => if x1 = 0 then some (gi st a0 24) else if x1 = 1 then j5 else if x1 = 2 then j5 else if x1 = 3 then j5 else if x1 = 4 then j5 else if x1 = 5 then j1 else if x1 = 6 then j1 else if x1 = 7 then some (gi st a0 1) else some ((-1) : Int32)
theorem l_R_count_64 {κ : Ko} {F : Int32 → AS → Prop} {v : Int32} {st : AS} (k : F v st) : ∀ (d : Nat) (a0 : Nat) (x1 : Int32) (x2 : Int32) (x3 : Int32), ly κ a0 = (12, 36) → L_R_count_64 κ st  d a0 x1 x2 x3 = some v → V κ M_R_count (RI F) 64 [some (.ref a0), some (.int x1), some (.int x2), some (.int x3)] [] st := by
  intro d
  induction d with
  | zero =>
    intro a0 x1 x2 x3 l_a0 h
    exact nn_some h
  | succ d ih =>
    intro a0 x1 x2 x3 l_a0 h
    rw [L_R_count_64] at h
    refine b_R_count_64 (l_a0 := l_a0) (k1 := fun e3 => ?_) (k2 := fun e3 => ?_)
    · replace h := if_t e3 h
      exact b_R_count_89  (k1 := lfIP h k)
    · replace h := if_f e3 h
      obtain ⟨v2, h4, h⟩ := bnd_some h
      refine b_R_count_72 (l_a0 := l_a0) (k1 := t_R_sheetOf l_a0 h4 ?_)
      refine b_R_count_81  (k1 := ?_)
      exact ih _ _ _ _ l_a0 h
theorem t_R_count {κ : Ko} {F : Int32 → AS → Prop} {a0 : Nat} {x1 : Int32} {st : AS} {v : Int32} (l_a0 : ly κ a0 = (12, 36)) (h : f_R_count κ a0 x1 st = some v) (k : F v st) : C κ M_R_count [.ref a0, .int x1] st (RI F) := by
  unfold f_R_count at h
  refine e_R_count ?_
  obtain ⟨j5, hdj5, h⟩ := jn_some h
  have hj5 : j5 = some v → V κ M_R_count (RI F) 53 [some (.ref a0), some (.int x1), none, none] [] st := by
    intro h
    rw [hdj5] at h
    obtain ⟨h6, h⟩ := grd_some h
    exact b_R_count_53 (l_a0 := l_a0) (b1 := h6) (k2 := lfIP h k)
  clear hdj5
  obtain ⟨j1, hdj1, h⟩ := jn_some h
  have hj1 : j1 = some v → V κ M_R_count (RI F) 62 [some (.ref a0), some (.int x1), some (.int (0 : Int32)), none] [] st := by
    intro h
    rw [hdj1] at h
    refine b_R_count_62  (k1 := ?_)
    refine l_R_count_64 k FU _ _ _ _ l_a0 h
  clear hdj1
  refine b_R_count_0  (k1 := fun e7 => ?_) (k2 := fun e7 => ?_) (k3 := fun e7 => ?_) (k4 := fun e7 => ?_) (k5 := fun e7 => ?_) (k6 := fun e7 => ?_) (k7 := fun e7 => ?_) (k8 := fun e7 => ?_) (k9 := fun e7 => ?_)
  · replace h := if_t e7 h
    exact b_R_count_48 (l_a0 := l_a0) (k1 := lfIP h k)
  · replace h := if_f (fun z => by rw [z] at e7; exact absurd e7 (by decide)) h
    replace h := if_t e7 h
    exact hj5  h
  · replace h := if_f (fun z => by rw [z] at e7; exact absurd e7 (by decide)) h
    replace h := if_f (fun z => by rw [z] at e7; exact absurd e7 (by decide)) h
    replace h := if_t e7 h
    exact hj5  h
  · replace h := if_f (fun z => by rw [z] at e7; exact absurd e7 (by decide)) h
    replace h := if_f (fun z => by rw [z] at e7; exact absurd e7 (by decide)) h
    replace h := if_f (fun z => by rw [z] at e7; exact absurd e7 (by decide)) h
    replace h := if_t e7 h
    exact hj5  h
  · replace h := if_f (fun z => by rw [z] at e7; exact absurd e7 (by decide)) h
    replace h := if_f (fun z => by rw [z] at e7; exact absurd e7 (by decide)) h
    replace h := if_f (fun z => by rw [z] at e7; exact absurd e7 (by decide)) h
    replace h := if_f (fun z => by rw [z] at e7; exact absurd e7 (by decide)) h
    replace h := if_t e7 h
    exact hj5  h
  · replace h := if_f (fun z => by rw [z] at e7; exact absurd e7 (by decide)) h
    replace h := if_f (fun z => by rw [z] at e7; exact absurd e7 (by decide)) h
    replace h := if_f (fun z => by rw [z] at e7; exact absurd e7 (by decide)) h
    replace h := if_f (fun z => by rw [z] at e7; exact absurd e7 (by decide)) h
    replace h := if_f (fun z => by rw [z] at e7; exact absurd e7 (by decide)) h
    replace h := if_t e7 h
    exact hj1  h
  · replace h := if_f (fun z => by rw [z] at e7; exact absurd e7 (by decide)) h
    replace h := if_f (fun z => by rw [z] at e7; exact absurd e7 (by decide)) h
    replace h := if_f (fun z => by rw [z] at e7; exact absurd e7 (by decide)) h
    replace h := if_f (fun z => by rw [z] at e7; exact absurd e7 (by decide)) h
    replace h := if_f (fun z => by rw [z] at e7; exact absurd e7 (by decide)) h
    replace h := if_f (fun z => by rw [z] at e7; exact absurd e7 (by decide)) h
    replace h := if_t e7 h
    exact hj1  h
  · replace h := if_f (fun z => by rw [z] at e7; exact absurd e7 (by decide)) h
    replace h := if_f (fun z => by rw [z] at e7; exact absurd e7 (by decide)) h
    replace h := if_f (fun z => by rw [z] at e7; exact absurd e7 (by decide)) h
    replace h := if_f (fun z => by rw [z] at e7; exact absurd e7 (by decide)) h
    replace h := if_f (fun z => by rw [z] at e7; exact absurd e7 (by decide)) h
    replace h := if_f (fun z => by rw [z] at e7; exact absurd e7 (by decide)) h
    replace h := if_f (fun z => by rw [z] at e7; exact absurd e7 (by decide)) h
    replace h := if_t e7 h
    exact b_R_count_91 (l_a0 := l_a0) (k1 := lfIP h k)
  · replace h := if_f (fun z => by rw [z] at e7; exact absurd e7 (by decide)) h
    replace h := if_f (fun z => by rw [z] at e7; exact absurd e7 (by decide)) h
    replace h := if_f (fun z => by rw [z] at e7; exact absurd e7 (by decide)) h
    replace h := if_f (fun z => by rw [z] at e7; exact absurd e7 (by decide)) h
    replace h := if_f (fun z => by rw [z] at e7; exact absurd e7 (by decide)) h
    replace h := if_f (fun z => by rw [z] at e7; exact absurd e7 (by decide)) h
    replace h := if_f (fun z => by rw [z] at e7; exact absurd e7 (by decide)) h
    replace h := if_f (fun z => by rw [z] at e7; exact absurd e7 (by decide)) h
    exact b_R_count_96  (k1 := lfIP h k)
noncomputable def L_R_image_33 (κ : Ko) : Nat → Nat → Int32 → Int32 → AS → Option (Int32 × AS)
  | 0, _, _, _, _ => none
  | d + 1, a0, x1, x2, st => if 22080 ≤ x2 then some (gi st a0 24, st) else grd (vp_in x2 25760) (grd (vp_in (((22080 : Int32) * x1) + x2) 88320) (L_R_image_33 κ  d a0 x1 (x2 + 1) (ui st (a0 + 21) (((22080 : Int32) * x1) + x2 : Int32).toNatClampNeg (gi st (a0 + 14) (x2 : Int32).toNatClampNeg))))
noncomputable def f_R_image (κ : Ko) (a0 : Nat) (x1 : Int32) (st : AS) : Option (Int32 × AS) := if (wi ((x1 : Int32).toInt64) (0 : Int64) (3 : Int64)) = 0 then some (((-1) : Int32), st) else grd (vp_in x1 4) (grd (vp_in x1 4) (L_R_image_33 κ  FU a0 x1 (0 : Int32) (ui (ui st (a0 + 23) (x1 : Int32).toNatClampNeg (vp_nar .boolean 1)) (a0 + 22) (x1 : Int32).toNatClampNeg (gi (ui st (a0 + 23) (x1 : Int32).toNatClampNeg (vp_nar .boolean 1)) a0 24))))
theorem l_R_image_33 {κ : Ko} {F : Int32 → AS → Prop} {v : Int32} {s' : AS} (k : F v s') : ∀ (d : Nat) (a0 : Nat) (x1 : Int32) (x2 : Int32) (st : AS), ly κ a0 = (12, 36) → L_R_image_33 κ  d a0 x1 x2 st = some (v, s') → V κ M_R_image (RI F) 33 [some (.ref a0), some (.int x1), some (.int x2)] [] st := by
  intro d
  induction d with
  | zero =>
    intro a0 x1 x2 st l_a0 h
    exact nn_some h
  | succ d ih =>
    intro a0 x1 x2 st l_a0 h
    rw [L_R_image_33] at h
    refine b_R_image_33  (k1 := fun e5 => ?_) (k2 := fun e5 => ?_)
    · replace h := if_t e5 h
      exact b_R_image_64 (l_a0 := l_a0) (k1 := lfI h k)
    · replace h := if_f e5 h
      obtain ⟨h3, h⟩ := grd_some h
      obtain ⟨h4, h⟩ := grd_some h
      refine b_R_image_40 (l_a0 := l_a0) (b1 := h3) (b2 := h4) (k3 := ?_)
      exact ih _ _ _ _ l_a0 h
theorem t_R_image {κ : Ko} {F : Int32 → AS → Prop} {a0 : Nat} {x1 : Int32} {st : AS} {v : Int32} {s' : AS} (l_a0 : ly κ a0 = (12, 36)) (h : f_R_image κ a0 x1 st = some (v, s')) (k : F v s') : C κ M_R_image [.ref a0, .int x1] st (RI F) := by
  unfold f_R_image at h
  refine e_R_image ?_
  refine b_R_image_0  (k1 := t_R_in  rfl ?_)
  refine b_R_image_9  (k1 := fun e6 => ?_) (k2 := fun e6 => ?_)
  · replace h := if_f e6 h
    obtain ⟨h1, h⟩ := grd_some h
    obtain ⟨h2, h⟩ := grd_some h
    refine b_R_image_14 (l_a0 := l_a0) (b1 := h1) (b2 := h2) (k3 := ?_)
    refine l_R_image_33 k FU _ _ _ _ l_a0 h
  · replace h := if_t e6 h
    exact b_R_image_12  (k1 := lfI h k)
noncomputable def L_R_back_35 (κ : Ko) : Nat → Nat → Int32 → Int32 → AS → Option (Int32 × AS)
  | 0, _, _, _, _ => none
  | d + 1, a0, x1, x2, st => if 22080 ≤ x2 then some (gi st a0 24, st) else grd (vp_in (((22080 : Int32) * x1) + x2) 88320) (grd (vp_in x2 25760) (L_R_back_35 κ  d a0 x1 (x2 + 1) (ui st (a0 + 14) (x2 : Int32).toNatClampNeg (gi st (a0 + 21) (((22080 : Int32) * x1) + x2 : Int32).toNatClampNeg))))
noncomputable def f_R_back (κ : Ko) (a0 : Nat) (x1 : Int32) (st : AS) : Option (Int32 × AS) := jn (some (((-1) : Int32), st)) fun j6 => if (wi ((x1 : Int32).toInt64) (0 : Int64) (3 : Int64)) = 0 then j6 else grd (vp_in x1 4) (if (gi st (a0 + 23) (x1 : Int32).toNatClampNeg) = 0 then j6 else grd (vp_in x1 4) (L_R_back_35 κ  FU a0 x1 (0 : Int32) (ui st a0 24 (gi st (a0 + 22) (x1 : Int32).toNatClampNeg))))
theorem l_R_back_35 {κ : Ko} {F : Int32 → AS → Prop} {v : Int32} {s' : AS} (k : F v s') : ∀ (d : Nat) (a0 : Nat) (x1 : Int32) (x2 : Int32) (st : AS), ly κ a0 = (12, 36) → L_R_back_35 κ  d a0 x1 x2 st = some (v, s') → V κ M_R_back (RI F) 35 [some (.ref a0), some (.int x1), some (.int x2)] [] st := by
  intro d
  induction d with
  | zero =>
    intro a0 x1 x2 st l_a0 h
    exact nn_some h
  | succ d ih =>
    intro a0 x1 x2 st l_a0 h
    rw [L_R_back_35] at h
    refine b_R_back_35  (k1 := fun e5 => ?_) (k2 := fun e5 => ?_)
    · replace h := if_t e5 h
      exact b_R_back_66 (l_a0 := l_a0) (k1 := lfI h k)
    · replace h := if_f e5 h
      obtain ⟨h3, h⟩ := grd_some h
      obtain ⟨h4, h⟩ := grd_some h
      refine b_R_back_42 (l_a0 := l_a0) (b1 := h3) (b2 := h4) (k3 := ?_)
      exact ih _ _ _ _ l_a0 h
theorem t_R_back {κ : Ko} {F : Int32 → AS → Prop} {a0 : Nat} {x1 : Int32} {st : AS} {v : Int32} {s' : AS} (l_a0 : ly κ a0 = (12, 36)) (h : f_R_back κ a0 x1 st = some (v, s')) (k : F v s') : C κ M_R_back [.ref a0, .int x1] st (RI F) := by
  unfold f_R_back at h
  refine e_R_back ?_
  refine b_R_back_0  (k1 := t_R_in  rfl ?_)
  obtain ⟨j6, hdj6, h⟩ := jn_some h
  have hj6 : j6 = some (v, s') → V κ M_R_back (RI F) 21 [none, none, none] [] st := by
    intro h
    rw [hdj6] at h
    exact b_R_back_21  (k1 := lfI h k)
  clear hdj6
  refine b_R_back_9  (k1 := fun e7 => ?_) (k2 := fun e7 => ?_)
  · replace h := if_t e7 h
    exact hj6  h
  · replace h := if_f e7 h
    obtain ⟨h1, h⟩ := grd_some h
    refine b_R_back_12 (l_a0 := l_a0) (b1 := h1) (k2 := fun e8 => ?_) (k3 := fun e8 => ?_)
    · replace h := if_f e8 h
      obtain ⟨h2, h⟩ := grd_some h
      refine b_R_back_23 (l_a0 := l_a0) (b1 := h2) (k2 := ?_)
      refine l_R_back_35 k FU _ _ _ _ l_a0 h
    · replace h := if_t e8 h
      exact hj6  h
