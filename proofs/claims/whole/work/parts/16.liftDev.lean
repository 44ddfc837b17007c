noncomputable def L_X_feedNumber_3 (κ : Ko) : Nat → Nat → Int32 → Int32 → AS → Option AS
  | 0, _, _, _, _ => none
  | d + 1, a0, x1, x2, st => if x2 < 0 then some st else L_X_feedNumber_3 κ  d a0 x1 (x2 + (-8)) (ui (gput st (a0 + 1) 400 (gi st a0 1) ((((x1 : Int32).toUInt32 >>> ((x2 : Int32).toUInt32 &&& Int32.toUInt32 31)).toInt32) &&& 255)) a0 1 ((gi (gput st (a0 + 1) 400 (gi st a0 1) ((((x1 : Int32).toUInt32 >>> ((x2 : Int32).toUInt32 &&& Int32.toUInt32 31)).toInt32) &&& 255)) a0 1) + 1))
noncomputable def f_X_feedNumber (κ : Ko) (a0 : Nat) (x1 : Int32) (st : AS) : Option AS := L_X_feedNumber_3 κ  FU a0 x1 (24 : Int32) st
theorem l_X_feedNumber_3 {κ : Ko} {F : AS → Prop} {s' : AS} (k : F s') : ∀ (d : Nat) (a0 : Nat) (x1 : Int32) (x2 : Int32) (st : AS), ly κ a0 = (11, 15) → L_X_feedNumber_3 κ  d a0 x1 x2 st = some s' → V κ M_X_feedNumber (RV F) 3 [some (.ref a0), some (.int x1), some (.int x2)] [] st := by
  intro d
  induction d with
  | zero =>
    intro a0 x1 x2 st l_a0 h
    exact nn_some h
  | succ d ih =>
    intro a0 x1 x2 st l_a0 h
    rw [L_X_feedNumber_3] at h
    refine b_X_feedNumber_3  (k1 := fun e1 => ?_) (k2 := fun e1 => ?_)
    · replace h := if_t e1 h
      exact b_X_feedNumber_41  (k1 := lfV h k)
    · replace h := if_f e1 h
      refine b_X_feedNumber_7 (l_a0 := l_a0) (k1 := t_X_put (co11 1 50 400 rfl l_a0) rfl ?_)
      refine b_X_feedNumber_25 (l_a0 := l_a0) (k1 := ?_)
      exact ih _ _ _ _ l_a0 h
theorem t_X_feedNumber {κ : Ko} {F : AS → Prop} {a0 : Nat} {x1 : Int32} {st : AS} {s' : AS} (l_a0 : ly κ a0 = (11, 15)) (h : f_X_feedNumber κ a0 x1 st = some s') (k : F s') : C κ M_X_feedNumber [.ref a0, .int x1] st (RV F) := by
  unfold f_X_feedNumber at h
  refine e_X_feedNumber ?_
  refine b_X_feedNumber_0  (k1 := ?_)
  refine l_X_feedNumber_3 k FU _ _ _ _ l_a0 h
noncomputable def f_X_feed (κ : Ko) (a0 : Nat) (x1 : Int32) (x2 : Int32) (x3 : Int32) (x4 : Int32) (x5 : Int32) (st : AS) : Option (Int32 × AS) := if ((gi st a0 1) + 20) ≤ 400 then bnd (f_X_feedNumber κ a0 x1 st) (fun s1 => bnd (f_X_feedNumber κ a0 x2 s1) (fun s2 => bnd (f_X_feedNumber κ a0 x3 s2) (fun s3 => bnd (f_X_feedNumber κ a0 x4 s3) (fun s4 => bnd (f_X_feedNumber κ a0 x5 s4) (fun s5 => some (gi s5 a0 1, s5)))))) else some (((-1) : Int32), st)
theorem t_X_feed {κ : Ko} {F : Int32 → AS → Prop} {a0 : Nat} {x1 : Int32} {x2 : Int32} {x3 : Int32} {x4 : Int32} {x5 : Int32} {st : AS} {v : Int32} {s' : AS} (l_a0 : ly κ a0 = (11, 15)) (h : f_X_feed κ a0 x1 x2 x3 x4 x5 st = some (v, s')) (k : F v s') : C κ M_X_feed [.ref a0, .int x1, .int x2, .int x3, .int x4, .int x5] st (RI F) := by
  unfold f_X_feed at h
  refine e_X_feed ?_
  refine b_X_feed_0 (l_a0 := l_a0) (k1 := fun e6 => ?_) (k2 := fun e6 => ?_)
  · replace h := if_t e6 h
    obtain ⟨s1, h7, h⟩ := bnd_some h
    refine b_X_feed_15 (l_a0 := l_a0) (k1 := t_X_feedNumber l_a0 h7 ?_)
    obtain ⟨s2, h8, h⟩ := bnd_some h
    refine b_X_feed_20 (l_a0 := l_a0) (k1 := t_X_feedNumber l_a0 h8 ?_)
    obtain ⟨s3, h9, h⟩ := bnd_some h
    refine b_X_feed_25 (l_a0 := l_a0) (k1 := t_X_feedNumber l_a0 h9 ?_)
    obtain ⟨s4, h10, h⟩ := bnd_some h
    refine b_X_feed_30 (l_a0 := l_a0) (k1 := t_X_feedNumber l_a0 h10 ?_)
    obtain ⟨s5, h11, h⟩ := bnd_some h
    refine b_X_feed_36 (l_a0 := l_a0) (k1 := t_X_feedNumber l_a0 h11 ?_)
    exact b_X_feed_42 (l_a0 := l_a0) (k1 := lfI h k)
  · replace h := if_f e6 h
    exact b_X_feed_13  (k1 := lfI h k)
noncomputable def f_X_end (κ : Ko) (a0 : Nat) (x1 : Int32) (st : AS) : (Int32 × AS) := jn ((((-1) : Int32), st)) fun j1 => if x1 < 0 then j1 else if x1 ≤ (gi st a0 1) then (x1, ui st a0 1 x1) else j1
theorem t_X_end {κ : Ko} {F : Int32 → AS → Prop} {a0 : Nat} {x1 : Int32} {st : AS} {v : Int32} {s' : AS} (l_a0 : ly κ a0 = (11, 15)) (h : f_X_end κ a0 x1 st = (v, s')) (k : F v s') : C κ M_X_end [.ref a0, .int x1] st (RI F) := by
  unfold f_X_end at h
  refine e_X_end ?_
  obtain ⟨j1, hdj1, h⟩ := jn_some h
  have hj1 : j1 = (v, s') → V κ M_X_end (RI F) 12 [none, none] [] st := by
    intro h
    rw [hdj1] at h
    exact b_X_end_12  (k1 := lfIT h k)
  clear hdj1
  refine b_X_end_0  (k1 := fun e2 => ?_) (k2 := fun e2 => ?_)
  · replace h := if_t e2 h
    exact hj1  h
  · replace h := if_f e2 h
    refine b_X_end_4 (l_a0 := l_a0) (k1 := fun e3 => ?_) (k2 := fun e3 => ?_)
    · replace h := if_t e3 h
      exact b_X_end_14 (l_a0 := l_a0) (k1 := lfIT h k)
    · replace h := if_f e3 h
      exact hj1  h
noncomputable def f_Rd_open (κ : Ko) (a0 : Nat) (x1 : Int32) (st : AS) : AS := (ui (ui (ui (ui st a0 1 x1) a0 2 0) a0 3 0) a0 4 0)
theorem t_Rd_open {κ : Ko} {F : AS → Prop} {a0 : Nat} {x1 : Int32} {st : AS} {s' : AS} (l_a0 : ly κ a0 = (6, 7)) (h : f_Rd_open κ a0 x1 st = s') (k : F s') : C κ M_Rd_open [.ref a0, .int x1] st (RV F) := by
  unfold f_Rd_open at h
  refine e_Rd_open ?_
  exact b_Rd_open_0 (l_a0 := l_a0) (k1 := lfVT h k)
noncomputable def f_Cd_clear (κ : Ko) (a0 : Nat) (st : AS) : AS := (ui st a0 3 0)
theorem t_Cd_clear {κ : Ko} {F : AS → Prop} {a0 : Nat} {st : AS} {s' : AS} (l_a0 : ly κ a0 = (0, 4)) (h : f_Cd_clear κ a0 st = s') (k : F s') : C κ M_Cd_clear [.ref a0] st (RV F) := by
  unfold f_Cd_clear at h
  refine e_Cd_clear ?_
  exact b_Cd_clear_0 (l_a0 := l_a0) (k1 := lfVT h k)
noncomputable def f_Lw_clear (κ : Ko) (a0 : Nat) (st : AS) : AS := (ui (ui (f_Cd_clear κ (a0 + 1) st) a0 5 0) a0 6 99)
theorem t_Lw_clear {κ : Ko} {F : AS → Prop} {a0 : Nat} {st : AS} {s' : AS} (l_a0 : ly κ a0 = (3, 7)) (h : f_Lw_clear κ a0 st = s') (k : F s') : C κ M_Lw_clear [.ref a0] st (RV F) := by
  unfold f_Lw_clear at h
  refine e_Lw_clear ?_
  refine b_Lw_clear_0 (l_a0 := l_a0) (k1 := t_Cd_clear (co3 1 0 4 rfl l_a0) rfl ?_)
  exact b_Lw_clear_7 (l_a0 := l_a0) (k1 := lfVT h k)
noncomputable def f_Lw_program (κ : Ko) (a0 : Nat) (st : AS) : Nat := (a0 + 1)
theorem t_Lw_program {κ : Ko} {F : Value → AS → Prop} {a0 : Nat} {st : AS} {v : Nat} (l_a0 : ly κ a0 = (3, 7)) (h : f_Lw_program κ a0 st = v) (k : F (.ref v) st) : C κ M_Lw_program [.ref a0] st (RR F) := by
  unfold f_Lw_program at h
  refine e_Lw_program ?_
  exact b_Lw_program_0 (l_a0 := l_a0) (k1 := lfRPT h k)
noncomputable def L_Rd_nextPlace_0 (κ : Ko) : Nat → Nat → AS → Option (Int32 × AS)
  | 0, _, _ => none
  | d + 1, a0, st => if (gi st a0 1) ≤ (gi st a0 2) then some (gi st a0 2, st) else bnd (gr st a0 0) (fun c2 => grd (ly κ c2 = (50, 400)) (if (nI 400) ≤ (gi st a0 2) then some (gi st a0 2, st) else bnd (gr st a0 0) (fun c5 => grd (ly κ c5 = (50, 400)) (grd (vp_in (gi st a0 2) 400) (if (gi st c5 (gi st a0 2 : Int32).toNatClampNeg) = 32 then L_Rd_nextPlace_0 κ  d a0 (ui st a0 2 ((gi st a0 2) + 1)) else some (gi st a0 2, st))))))
noncomputable def f_Rd_nextPlace (κ : Ko) (a0 : Nat) (st : AS) : Option (Int32 × AS) := L_Rd_nextPlace_0 κ  FU a0 st
theorem l_Rd_nextPlace_0 {κ : Ko} {F : Int32 → AS → Prop} {v : Int32} {s' : AS} (k : F v s') : ∀ (d : Nat) (a0 : Nat) (st : AS), ly κ a0 = (6, 7) → L_Rd_nextPlace_0 κ  d a0 st = some (v, s') → V κ M_Rd_nextPlace (RI F) 0 [some (.ref a0)] [] st := by
  intro d
  induction d with
  | zero =>
    intro a0 st l_a0 h
    exact nn_some h
  | succ d ih =>
    intro a0 st l_a0 h
    rw [L_Rd_nextPlace_0] at h
    refine b_Rd_nextPlace_0 (l_a0 := l_a0) (k1 := fun e8 => ?_) (k2 := fun e8 => ?_)
    · replace h := if_t e8 h
      exact b_Rd_nextPlace_50 (l_a0 := l_a0) (k1 := lfI h k)
    · replace h := if_f e8 h
      obtain ⟨c2, h1, h⟩ := bnd_some h
      obtain ⟨l3, h⟩ := grd_some h
      refine b_Rd_nextPlace_11 (l_a0 := l_a0) (g1 := h1) (l_r1 := l3) (k2 := fun e9 => ?_) (k3 := fun e9 => ?_)
      · replace h := if_t e9 h
        exact b_Rd_nextPlace_50 (l_a0 := l_a0) (k1 := lfI h k)
      · replace h := if_f e9 h
        obtain ⟨c5, h4, h⟩ := bnd_some h
        obtain ⟨l6, h⟩ := grd_some h
        obtain ⟨h7, h⟩ := grd_some h
        refine b_Rd_nextPlace_23 (l_a0 := l_a0) (g1 := h4) (l_r1 := l6) (b2 := h7) (k3 := fun e10 => ?_) (k4 := fun e10 => ?_)
        · replace h := if_f e10 h
          exact b_Rd_nextPlace_50 (l_a0 := l_a0) (k1 := lfI h k)
        · replace h := if_t e10 h
          refine b_Rd_nextPlace_37 (l_a0 := l_a0) (k1 := ?_)
          exact ih _ _ l_a0 h
theorem t_Rd_nextPlace {κ : Ko} {F : Int32 → AS → Prop} {a0 : Nat} {st : AS} {v : Int32} {s' : AS} (l_a0 : ly κ a0 = (6, 7)) (h : f_Rd_nextPlace κ a0 st = some (v, s')) (k : F v s') : C κ M_Rd_nextPlace [.ref a0] st (RI F) := by
  unfold f_Rd_nextPlace at h
  refine e_Rd_nextPlace ?_
  refine l_Rd_nextPlace_0 k FU _ _ l_a0 h
noncomputable def L_Rd_wordAmong_7 (κ : Ko) (k_42 : Nat → Nat → Int32 → Int32 → AS → Option (Int32 × AS)) : Nat → Nat → Nat → Int32 → Int32 → AS → Option (Int32 × AS)
  | 0, _, _, _, _, _ => none
  | d + 1, a0, i1, x2, x3, st => if (gi st a0 1) ≤ x3 then k_42 a0 i1 x2 x3 st else bnd (gr st a0 0) (fun c4 => grd (ly κ c4 = (50, 400)) (if (wi (((gat (gi st c4) 400 x3) : Int32).toInt64) (97 : Int64) (122 : Int64)) = 0 then k_42 a0 i1 x2 x3 st else L_Rd_wordAmong_7 κ k_42 d a0 i1 x2 (x3 + 1) st))
noncomputable def L_Rd_wordAmong_51 (κ : Ko) : Nat → Nat → Nat → Int32 → Int32 → Int32 → Int32 → Int32 → AS → Option (Int32 × AS)
  | 0, _, _, _, _, _, _, _, _ => none
  | d + 1, a0, i1, x2, x3, x4, x5, x6, st => if (nI (litN.getD i1 0)) < x6 then some (((-1) : Int32), st) else if (gi st a0 3) = 0 then if x3 ≤ x2 then some (((-1) : Int32), st) else jn (fun (v17 : Int32) => jn (if v17 = 0 then jn (fun (v25 : Int32) => L_Rd_wordAmong_51 κ  d a0 i1 x2 x3 x4 (if v25 = 0 then ((-1) : Int32) else x5 + 1 : Int32) (x6 + 1) st) fun j24 => jn (j24 (0 : Int32)) fun j23 => if x5 < 0 then j23 else if (x3 - x2) ≤ x5 then j23 else bnd (gr st a0 0) (fun c20 => grd (ly κ c20 = (50, 400)) (bnd (f_Js_charAt κ i1 x6 st) (fun v22 => if (gat (gi st c20) 400 (x2 + x5)) = v22 then j24 (1 : Int32) else j23))) else L_Rd_wordAmong_51 κ  d a0 i1 x2 x3 (x4 + 1) (0 : Int32) (x6 + 1) st) fun j18 => if v17 = 0 then j18 else if x5 = (x3 - x2) then some (x4, ui st a0 2 x3) else j18) fun j16 => jn (j16 (1 : Int32)) fun j15 => if x6 = (nI (litN.getD i1 0)) then j15 else bnd (f_Js_charAt κ i1 x6 st) (fun v14 => if v14 = 32 then j15 else j16 (0 : Int32)) else some (((-1) : Int32), st)
noncomputable def f_Rd_wordAmong (κ : Ko) (a0 : Nat) (i1 : Nat) (st : AS) : Option (Int32 × AS) := bnd2 (f_Rd_nextPlace κ a0 st) (fun v1 s2 => L_Rd_wordAmong_7 κ (fun (v8 : Nat) (v10 : Nat) (v11 : Int32) (v12 : Int32) (s13 : AS) => L_Rd_wordAmong_51 κ  FU v8 v10 v11 v12 (0 : Int32) (0 : Int32) (0 : Int32) s13) FU a0 i1 v1 v1 s2)
theorem l_Rd_wordAmong_7 {κ : Ko} {F : Int32 → AS → Prop} {v : Int32} {s' : AS} (k : F v s') {k_42 : Nat → Nat → Int32 → Int32 → AS → Option (Int32 × AS)} (hk_42 : ∀ (a0 : Nat) (i1 : Nat) (x2 : Int32) (x3 : Int32) (st : AS), ly κ a0 = (6, 7) → i1 < 11 → k_42 a0 i1 x2 x3 st = some (v, s') → V κ M_Rd_wordAmong (RI F) 42 [some (.ref a0), some (.ref (kK (kt κ) i1)), some (.int x2), some (.int x3), none, none, none, none, none] [] st) : ∀ (d : Nat) (a0 : Nat) (i1 : Nat) (x2 : Int32) (x3 : Int32) (st : AS), ly κ a0 = (6, 7) → i1 < 11 → L_Rd_wordAmong_7 κ k_42 d a0 i1 x2 x3 st = some (v, s') → V κ M_Rd_wordAmong (RI F) 7 [some (.ref a0), some (.ref (kK (kt κ) i1)), some (.int x2), some (.int x3), none, none, none, none, none] [] st := by
  intro d
  induction d with
  | zero =>
    intro a0 i1 x2 x3 st l_a0 j_i1 h
    exact nn_some h
  | succ d ih =>
    intro a0 i1 x2 x3 st l_a0 j_i1 h
    rw [L_Rd_wordAmong_7] at h
    refine b_Rd_wordAmong_7 (l_a0 := l_a0) (k1 := fun e6 => ?_) (k2 := fun e6 => ?_)
    · replace h := if_t e6 h
      exact hk_42 _ _ _ _ _ l_a0 j_i1 h
    · replace h := if_f e6 h
      obtain ⟨c4, h3, h⟩ := bnd_some h
      obtain ⟨l5, h⟩ := grd_some h
      refine b_Rd_wordAmong_15 (l_a0 := l_a0) (g1 := h3) (k2 := t_X_at l5 rfl ?_)
      refine b_Rd_wordAmong_23  (k1 := t_X_within  rfl ?_)
      refine b_Rd_wordAmong_33  (k1 := fun e7 => ?_) (k2 := fun e7 => ?_)
      · replace h := if_t e7 h
        exact hk_42 _ _ _ _ _ l_a0 j_i1 h
      · replace h := if_f e7 h
        refine b_Rd_wordAmong_36  (k1 := ?_)
        exact ih _ _ _ _ _ l_a0 j_i1 h
theorem l_Rd_wordAmong_51 {κ : Ko} {F : Int32 → AS → Prop} {v : Int32} {s' : AS} (k : F v s') : ∀ (d : Nat) (a0 : Nat) (i1 : Nat) (x2 : Int32) (x3 : Int32) (x4 : Int32) (x5 : Int32) (x6 : Int32) (st : AS), ly κ a0 = (6, 7) → i1 < 11 → L_Rd_wordAmong_51 κ  d a0 i1 x2 x3 x4 x5 x6 st = some (v, s') → V κ M_Rd_wordAmong (RI F) 51 [some (.ref a0), some (.ref (kK (kt κ) i1)), some (.int x2), some (.int x3), some (.int x4), some (.int x5), some (.int x6), none, none] [] st := by
  intro d
  induction d with
  | zero =>
    intro a0 i1 x2 x3 x4 x5 x6 st l_a0 j_i1 h
    exact nn_some h
  | succ d ih =>
    intro a0 i1 x2 x3 x4 x5 x6 st l_a0 j_i1 h
    rw [L_Rd_wordAmong_51] at h
    refine b_Rd_wordAmong_51 (j2 := ⟨i1, j_i1, rfl⟩) (k1 := t_Js_length j_i1 rfl ?_)
    refine b_Rd_wordAmong_57  (k1 := fun e26 => ?_) (k2 := fun e26 => ?_)
    · replace h := if_t e26 h
      exact b_Rd_wordAmong_195  (k1 := lfI h k)
    · replace h := if_f e26 h
      refine b_Rd_wordAmong_60 (l_a0 := l_a0) (k1 := fun e27 => ?_) (k2 := fun e27 => ?_)
      · replace h := if_f e27 h
        exact b_Rd_wordAmong_195  (k1 := lfI h k)
      · replace h := if_t e27 h
        refine b_Rd_wordAmong_67  (k1 := fun e28 => ?_) (k2 := fun e28 => ?_)
        · replace h := if_t e28 h
          exact b_Rd_wordAmong_195  (k1 := lfI h k)
        · replace h := if_f e28 h
          refine b_Rd_wordAmong_72 (j2 := ⟨i1, j_i1, rfl⟩) (k1 := t_Js_length j_i1 rfl ?_)
          obtain ⟨j16, hdj16, h⟩ := jn_some h
          have hj16 : ∀ (v17 : Int32), j16 v17 = some (v, s') → V κ M_Rd_wordAmong (RI F) 97 [some (.ref a0), some (.ref (kK (kt κ) i1)), some (.int x2), some (.int x3), some (.int x4), some (.int x5), some (.int x6), none, none] [.int v17] st := by
            intro v17 h
            rw [hdj16] at h
            obtain ⟨j18, hdj18, h⟩ := jn_some h
            have hj18 : j18 = some (v, s') → V κ M_Rd_wordAmong (RI F) 120 [some (.ref a0), some (.ref (kK (kt κ) i1)), some (.int x2), some (.int x3), some (.int x4), some (.int x5), some (.int x6), some (.int v17), none] [] st := by
              intro h
              rw [hdj18] at h
              refine b_Rd_wordAmong_120  (k1 := fun e29 => ?_) (k2 := fun e29 => ?_)
              · replace h := if_t e29 h
                obtain ⟨j24, hdj24, h⟩ := jn_some h
                have hj24 : ∀ (v25 : Int32), j24 v25 = some (v, s') → V κ M_Rd_wordAmong (RI F) 172 [some (.ref a0), some (.ref (kK (kt κ) i1)), some (.int x2), some (.int x3), some (.int x4), some (.int x5), some (.int x6), none, none] [.int v25] st := by
                  intro v25 h
                  rw [hdj24] at h
                  have K31 : V κ M_Rd_wordAmong (RI F) 51 [some (.ref a0), some (.ref (kK (kt κ) i1)), some (.int x2), some (.int x3), some (.int x4), some (.int (if v25 = 0 then ((-1) : Int32) else x5 + 1 : Int32)), some (.int (x6 + 1)), none, none] [] st := by
                    exact ih _ _ _ _ _ _ _ _ l_a0 j_i1 h
                  refine b_Rd_wordAmong_172  (k1 := fun e32 => ?_) (k2 := fun e32 => ?_)
                  · refine b_Rd_wordAmong_186  (k1 := ?_)
                    exact (ite_t (P := fun z => V κ M_Rd_wordAmong (RI F) 51 [some (.ref a0), some (.ref (kK (kt κ) i1)), some (.int x2), some (.int x3), some (.int x4), some (.int z), some (.int (x6 + 1)), none, none] [] st) e32 K31)
                  · refine b_Rd_wordAmong_179  (k1 := ?_)
                    exact (ite_f (P := fun z => V κ M_Rd_wordAmong (RI F) 51 [some (.ref a0), some (.ref (kK (kt κ) i1)), some (.int x2), some (.int x3), some (.int x4), some (.int z), some (.int (x6 + 1)), none, none] [] st) e32 K31)
                clear hdj24
                obtain ⟨j23, hdj23, h⟩ := jn_some h
                have hj23 : j23 = some (v, s') → V κ M_Rd_wordAmong (RI F) 171 [some (.ref a0), some (.ref (kK (kt κ) i1)), some (.int x2), some (.int x3), some (.int x4), some (.int x5), some (.int x6), none, none] [] st := by
                  intro h
                  rw [hdj23] at h
                  refine b_Rd_wordAmong_171  (k1 := ?_)
                  exact hj24 _  h
                clear hdj23
                refine b_Rd_wordAmong_134  (k1 := fun e33 => ?_) (k2 := fun e33 => ?_)
                · replace h := if_t e33 h
                  exact hj23  h
                · replace h := if_f e33 h
                  refine b_Rd_wordAmong_139  (k1 := fun e34 => ?_) (k2 := fun e34 => ?_)
                  · replace h := if_t e34 h
                    exact hj23  h
                  · replace h := if_f e34 h
                    obtain ⟨c20, h19, h⟩ := bnd_some h
                    obtain ⟨l21, h⟩ := grd_some h
                    refine b_Rd_wordAmong_147 (l_a0 := l_a0) (g1 := h19) (k2 := t_X_at l21 rfl ?_)
                    obtain ⟨v22, h35, h⟩ := bnd_some h
                    refine b_Rd_wordAmong_158 (j2 := ⟨i1, j_i1, rfl⟩) (k1 := t_Js_charAt j_i1 h35 ?_)
                    refine b_Rd_wordAmong_164  (k1 := fun e36 => ?_) (k2 := fun e36 => ?_)
                    · replace h := if_f e36 h
                      exact hj23  h
                    · replace h := if_t e36 h
                      refine b_Rd_wordAmong_167  (k1 := ?_)
                      exact hj24 _  h
              · replace h := if_f e29 h
                refine b_Rd_wordAmong_125  (k1 := ?_)
                exact ih _ _ _ _ _ _ _ _ l_a0 j_i1 h
            clear hdj18
            refine b_Rd_wordAmong_97  (k1 := fun e37 => ?_) (k2 := fun e37 => ?_)
            · replace h := if_t e37 h
              exact hj18  h
            · replace h := if_f e37 h
              refine b_Rd_wordAmong_104  (k1 := fun e38 => ?_) (k2 := fun e38 => ?_)
              · replace h := if_f e38 h
                exact hj18  h
              · replace h := if_t e38 h
                exact b_Rd_wordAmong_112 (l_a0 := l_a0) (k1 := lfI h k)
          clear hdj16
          obtain ⟨j15, hdj15, h⟩ := jn_some h
          have hj15 : j15 = some (v, s') → V κ M_Rd_wordAmong (RI F) 92 [some (.ref a0), some (.ref (kK (kt κ) i1)), some (.int x2), some (.int x3), some (.int x4), some (.int x5), some (.int x6), none, none] [] st := by
            intro h
            rw [hdj15] at h
            refine b_Rd_wordAmong_92  (k1 := ?_)
            exact hj16 _  h
          clear hdj15
          refine b_Rd_wordAmong_78  (k1 := fun e39 => ?_) (k2 := fun e39 => ?_)
          · replace h := if_t e39 h
            exact hj15  h
          · replace h := if_f e39 h
            obtain ⟨v14, h40, h⟩ := bnd_some h
            refine b_Rd_wordAmong_81 (j2 := ⟨i1, j_i1, rfl⟩) (k1 := t_Js_charAt j_i1 h40 ?_)
            refine b_Rd_wordAmong_87  (k1 := fun e41 => ?_) (k2 := fun e41 => ?_)
            · replace h := if_f e41 h
              refine b_Rd_wordAmong_96  (k1 := ?_)
              exact hj16 _  h
            · replace h := if_t e41 h
              exact hj15  h
theorem t_Rd_wordAmong {κ : Ko} {F : Int32 → AS → Prop} {a0 : Nat} {i1 : Nat} {st : AS} {v : Int32} {s' : AS} (l_a0 : ly κ a0 = (6, 7)) (j_i1 : i1 < 11) (h : f_Rd_wordAmong κ a0 i1 st = some (v, s')) (k : F v s') : C κ M_Rd_wordAmong [.ref a0, .ref (kK (kt κ) i1)] st (RI F) := by
  unfold f_Rd_wordAmong at h
  refine e_Rd_wordAmong ?_
  obtain ⟨v1, s2, h42, h⟩ := bnd2_some h
  refine b_Rd_wordAmong_0 (l_a0 := l_a0) (k1 := t_Rd_nextPlace l_a0 h42 ?_)
  refine b_Rd_wordAmong_4  (k1 := ?_)
  refine l_Rd_wordAmong_7 k ?_ FU _ _ _ _ _ l_a0 j_i1 h
  · intro v8 v10 v11 v12 s13 l9 j_v10 h
    refine b_Rd_wordAmong_42  (k1 := ?_)
    refine l_Rd_wordAmong_51 k FU _ _ _ _ _ _ _ _ l9 j_v10 h
noncomputable def f_Rd_fail (κ : Ko) (a0 : Nat) (x1 : Int32) (x2 : Int32) (st : AS) : AS := if (gi st a0 3) = 0 then (ui st a0 3 (((1 : Int32) + ((8 : Int32) * x1)) + x2)) else st
theorem t_Rd_fail {κ : Ko} {F : AS → Prop} {a0 : Nat} {x1 : Int32} {x2 : Int32} {st : AS} {s' : AS} (l_a0 : ly κ a0 = (6, 7)) (h : f_Rd_fail κ a0 x1 x2 st = s') (k : F s') : C κ M_Rd_fail [.ref a0, .int x1, .int x2] st (RV F) := by
  unfold f_Rd_fail at h
  refine e_Rd_fail ?_
  refine b_Rd_fail_0 (l_a0 := l_a0) (k1 := fun e1 => ?_) (k2 := fun e1 => ?_)
  · replace h := if_f e1 h
    exact b_Rd_fail_19  (k1 := lfVT h k)
  · replace h := if_t e1 h
    exact b_Rd_fail_7 (l_a0 := l_a0) (k1 := lfVT h k)
noncomputable def f_Rd_neededWord (κ : Ko) (a0 : Nat) (i1 : Nat) (st : AS) : Option (Int32 × AS) := bnd2 (f_Rd_wordAmong κ a0 i1 st) (fun v1 s2 => jn (fun (s4 : AS) => some (v1, s4)) fun j3 => if v1 = ((-1)) then j3 (f_Rd_fail κ a0 (gi s2 a0 2) (0 : Int32) s2) else j3 s2)
theorem t_Rd_neededWord {κ : Ko} {F : Int32 → AS → Prop} {a0 : Nat} {i1 : Nat} {st : AS} {v : Int32} {s' : AS} (l_a0 : ly κ a0 = (6, 7)) (j_i1 : i1 < 11) (h : f_Rd_neededWord κ a0 i1 st = some (v, s')) (k : F v s') : C κ M_Rd_neededWord [.ref a0, .ref (kK (kt κ) i1)] st (RI F) := by
  unfold f_Rd_neededWord at h
  refine e_Rd_neededWord ?_
  obtain ⟨v1, s2, h5, h⟩ := bnd2_some h
  refine b_Rd_neededWord_0 (l_a0 := l_a0) (k1 := t_Rd_wordAmong l_a0 j_i1 h5 ?_)
  obtain ⟨j3, hdj3, h⟩ := jn_some h
  have hj3 : ∀ (s4 : AS), j3 s4 = some (v, s') → V κ M_Rd_neededWord (RI F) 20 [none, none, some (.int v1)] [] s4 := by
    intro s4 h
    rw [hdj3] at h
    exact b_Rd_neededWord_20  (k1 := lfI h k)
  clear hdj3
  refine b_Rd_neededWord_5  (k1 := fun e6 => ?_) (k2 := fun e6 => ?_)
  · replace h := if_f e6 h
    exact hj3 _  h
  · replace h := if_t e6 h
    refine b_Rd_neededWord_11 (l_a0 := l_a0) (k1 := t_Rd_fail l_a0 rfl ?_)
    exact hj3 _  h
noncomputable def f_Rd_clauseWord (κ : Ko) (a0 : Nat) (i1 : Nat) (x2 : Int32) (st : AS) : Option (Int32 × AS) := bnd2 (f_Rd_nextPlace κ a0 st) (fun v1 s2 => bnd2 (f_Rd_neededWord κ a0 i1 s2) (fun v3 s4 => jn (fun (s6 : AS) => some (v3, s6)) fun j5 => if x2 = 12 then j5 (f_Rd_fail κ a0 v1 (4 : Int32) s4) else j5 s4))
theorem t_Rd_clauseWord {κ : Ko} {F : Int32 → AS → Prop} {a0 : Nat} {i1 : Nat} {x2 : Int32} {st : AS} {v : Int32} {s' : AS} (l_a0 : ly κ a0 = (6, 7)) (j_i1 : i1 < 11) (h : f_Rd_clauseWord κ a0 i1 x2 st = some (v, s')) (k : F v s') : C κ M_Rd_clauseWord [.ref a0, .ref (kK (kt κ) i1), .int x2] st (RI F) := by
  unfold f_Rd_clauseWord at h
  refine e_Rd_clauseWord ?_
  obtain ⟨v1, s2, h7, h⟩ := bnd2_some h
  refine b_Rd_clauseWord_0 (l_a0 := l_a0) (k1 := t_Rd_nextPlace l_a0 h7 ?_)
  obtain ⟨v3, s4, h8, h⟩ := bnd2_some h
  refine b_Rd_clauseWord_4 (l_a0 := l_a0) (k1 := t_Rd_neededWord l_a0 j_i1 h8 ?_)
  obtain ⟨j5, hdj5, h⟩ := jn_some h
  have hj5 : ∀ (s6 : AS), j5 s6 = some (v, s') → V κ M_Rd_clauseWord (RI F) 24 [none, none, none, none, some (.int v3)] [] s6 := by
    intro s6 h
    rw [hdj5] at h
    exact b_Rd_clauseWord_24  (k1 := lfI h k)
  clear hdj5
  refine b_Rd_clauseWord_10  (k1 := fun e9 => ?_) (k2 := fun e9 => ?_)
  · replace h := if_f e9 h
    exact hj5 _  h
  · replace h := if_t e9 h
    refine b_Rd_clauseWord_18 (l_a0 := l_a0) (k1 := t_Rd_fail l_a0 rfl ?_)
    exact hj5 _  h
noncomputable def L_Rd_number_8 (κ : Ko) (k_88 : Nat → Int32 → Int32 → Int32 → Int32 → AS → Option (Int32 × AS)) : Nat → Nat → Int32 → Int32 → Int32 → Int32 → AS → Option (Int32 × AS)
  | 0, _, _, _, _, _, _ => none
  | d + 1, a0, x1, x2, x3, x4, st => if (gi st a0 1) ≤ (gi st a0 2) then k_88 a0 x1 x2 x3 x4 st else bnd (gr st a0 0) (fun c4 => grd (ly κ c4 = (50, 400)) (if (wi (((gat (gi st c4) 400 (gi st a0 2)) : Int32).toInt64) (48 : Int64) (57 : Int64)) = 0 then k_88 a0 x1 x2 x3 x4 st else jn (fun (v10 : Int32) => L_Rd_number_8 κ k_88 d a0 x1 x2 x3 v10 (ui st a0 2 ((gi st a0 2) + 1))) fun j9 => if 5 ≤ ((gi st a0 2) - x3) then j9 x4 else bnd (gr st a0 0) (fun c7 => grd (ly κ c7 = (50, 400)) (j9 (((x4 * 10) + (gat (gi st c7) 400 (gi st a0 2))) - 48)))))
noncomputable def f_Rd_number (κ : Ko) (a0 : Nat) (x1 : Int32) (x2 : Int32) (st : AS) : Option (Int32 × AS) := bnd2 (f_Rd_nextPlace κ a0 st) (fun v1 s2 => L_Rd_number_8 κ (fun (v14 : Nat) (v16 : Int32) (v17 : Int32) (v18 : Int32) (v19 : Int32) (s20 : AS) => jn (fun (s22 : AS) => jn (fun (s25 : AS) => some (v19, s25)) fun j24 => jn (j24 (f_Rd_fail κ v14 v18 (1 : Int32) s22)) fun j23 => if 5 < ((gi s22 v14 2) - v18) then j23 else if (wi ((v19 : Int32).toInt64) ((v16 : Int32).toInt64) ((v17 : Int32).toInt64)) = 0 then j23 else j24 s22) fun j21 => if (gi s20 v14 2) = v18 then j21 (f_Rd_fail κ v14 v18 (0 : Int32) s20) else j21 s20) FU a0 x1 x2 v1 (0 : Int32) s2)
theorem l_Rd_number_8 {κ : Ko} {F : Int32 → AS → Prop} {v : Int32} {s' : AS} (k : F v s') {k_88 : Nat → Int32 → Int32 → Int32 → Int32 → AS → Option (Int32 × AS)} (hk_88 : ∀ (a0 : Nat) (x1 : Int32) (x2 : Int32) (x3 : Int32) (x4 : Int32) (st : AS), ly κ a0 = (6, 7) → k_88 a0 x1 x2 x3 x4 st = some (v, s') → V κ M_Rd_number (RI F) 88 [some (.ref a0), some (.int x1), some (.int x2), some (.int x3), some (.int x4)] [] st) : ∀ (d : Nat) (a0 : Nat) (x1 : Int32) (x2 : Int32) (x3 : Int32) (x4 : Int32) (st : AS), ly κ a0 = (6, 7) → L_Rd_number_8 κ k_88 d a0 x1 x2 x3 x4 st = some (v, s') → V κ M_Rd_number (RI F) 8 [some (.ref a0), some (.int x1), some (.int x2), some (.int x3), some (.int x4)] [] st := by
  intro d
  induction d with
  | zero =>
    intro a0 x1 x2 x3 x4 st l_a0 h
    exact nn_some h
  | succ d ih =>
    intro a0 x1 x2 x3 x4 st l_a0 h
    rw [L_Rd_number_8] at h
    refine b_Rd_number_8 (l_a0 := l_a0) (k1 := fun e11 => ?_) (k2 := fun e11 => ?_)
    · replace h := if_t e11 h
      exact hk_88 _ _ _ _ _ _ l_a0 h
    · replace h := if_f e11 h
      obtain ⟨c4, h3, h⟩ := bnd_some h
      obtain ⟨l5, h⟩ := grd_some h
      refine b_Rd_number_19 (l_a0 := l_a0) (g1 := h3) (k2 := t_X_at l5 rfl ?_)
      refine b_Rd_number_30  (k1 := t_X_within  rfl ?_)
      refine b_Rd_number_40  (k1 := fun e12 => ?_) (k2 := fun e12 => ?_)
      · replace h := if_t e12 h
        exact hk_88 _ _ _ _ _ _ l_a0 h
      · replace h := if_f e12 h
        obtain ⟨j9, hdj9, h⟩ := jn_some h
        have hj9 : ∀ (v10 : Int32), j9 v10 = some (v, s') → V κ M_Rd_number (RI F) 75 [some (.ref a0), some (.int x1), some (.int x2), some (.int x3), some (.int v10)] [] st := by
          intro v10 h
          rw [hdj9] at h
          refine b_Rd_number_75 (l_a0 := l_a0) (k1 := ?_)
          exact ih _ _ _ _ _ _ l_a0 h
        clear hdj9
        refine b_Rd_number_43 (l_a0 := l_a0) (k1 := fun e13 => ?_) (k2 := fun e13 => ?_)
        · replace h := if_t e13 h
          exact hj9 _  h
        · replace h := if_f e13 h
          obtain ⟨c7, h6, h⟩ := bnd_some h
          obtain ⟨l8, h⟩ := grd_some h
          refine b_Rd_number_53 (l_a0 := l_a0) (g1 := h6) (k2 := t_X_at l8 rfl ?_)
          refine b_Rd_number_69  (k1 := ?_)
          exact hj9 _  h
theorem t_Rd_number {κ : Ko} {F : Int32 → AS → Prop} {a0 : Nat} {x1 : Int32} {x2 : Int32} {st : AS} {v : Int32} {s' : AS} (l_a0 : ly κ a0 = (6, 7)) (h : f_Rd_number κ a0 x1 x2 st = some (v, s')) (k : F v s') : C κ M_Rd_number [.ref a0, .int x1, .int x2] st (RI F) := by
  unfold f_Rd_number at h
  refine e_Rd_number ?_
  obtain ⟨v1, s2, h26, h⟩ := bnd2_some h
  refine b_Rd_number_0 (l_a0 := l_a0) (k1 := t_Rd_nextPlace l_a0 h26 ?_)
  refine b_Rd_number_4  (k1 := ?_)
  refine l_Rd_number_8 k ?_ FU _ _ _ _ _ _ l_a0 h
  · intro v14 v16 v17 v18 v19 s20 l15 h
    obtain ⟨j21, hdj21, h⟩ := jn_some h
    have hj21 : ∀ (s22 : AS), j21 s22 = some (v, s') → V κ M_Rd_number (RI F) 102 [some (.ref v14), some (.int v16), some (.int v17), some (.int v18), some (.int v19)] [] s22 := by
      intro s22 h
      rw [hdj21] at h
      obtain ⟨j24, hdj24, h⟩ := jn_some h
      have hj24 : ∀ (s25 : AS), j24 s25 = some (v, s') → V κ M_Rd_number (RI F) 131 [none, none, none, none, some (.int v19)] [] s25 := by
        intro s25 h
        rw [hdj24] at h
        exact b_Rd_number_131  (k1 := lfI h k)
      clear hdj24
      obtain ⟨j23, hdj23, h⟩ := jn_some h
      have hj23 : j23 = some (v, s') → V κ M_Rd_number (RI F) 125 [some (.ref v14), none, none, some (.int v18), some (.int v19)] [] s22 := by
        intro h
        rw [hdj23] at h
        refine b_Rd_number_125 (l_a0 := l15) (k1 := t_Rd_fail l15 rfl ?_)
        exact hj24 _  h
      clear hdj23
      refine b_Rd_number_102 (l_a0 := l15) (k1 := fun e27 => ?_) (k2 := fun e27 => ?_)
      · replace h := if_t e27 h
        exact hj23  h
      · replace h := if_f e27 h
        refine b_Rd_number_112  (k1 := t_X_within  rfl ?_)
        refine b_Rd_number_122  (k1 := fun e28 => ?_) (k2 := fun e28 => ?_)
        · replace h := if_f e28 h
          exact hj24 _  h
        · replace h := if_t e28 h
          exact hj23  h
    clear hdj21
    refine b_Rd_number_88 (l_a0 := l15) (k1 := fun e29 => ?_) (k2 := fun e29 => ?_)
    · replace h := if_f e29 h
      exact hj21 _  h
    · replace h := if_t e29 h
      refine b_Rd_number_96 (l_a0 := l15) (k1 := t_Rd_fail l15 rfl ?_)
      exact hj21 _  h
noncomputable def f_Lw_softFrom (κ : Ko) (a0 : Nat) (x1 : Int32) (st : AS) : AS := (ui st a0 6 x1)
theorem t_Lw_softFrom {κ : Ko} {F : AS → Prop} {a0 : Nat} {x1 : Int32} {st : AS} {s' : AS} (l_a0 : ly κ a0 = (3, 7)) (h : f_Lw_softFrom κ a0 x1 st = s') (k : F s') : C κ M_Lw_softFrom [.ref a0, .int x1] st (RV F) := by
  unfold f_Lw_softFrom at h
  refine e_Lw_softFrom ?_
  exact b_Lw_softFrom_0 (l_a0 := l_a0) (k1 := lfVT h k)
noncomputable def f_Rd_takesByte (κ : Ko) (a0 : Nat) (x1 : Int32) (st : AS) : Option (Int32 × AS) := jn (fun (v9 : Int32) (s10 : AS) => if v9 = 0 then grd (v9 = 0 ∨ v9 = 1) (some (v9, s10)) else grd (v9 = 0 ∨ v9 = 1) (some (v9, ui s10 a0 2 ((gi s10 a0 2) + 1)))) fun j8 => jn (fun (s7 : AS) => j8 (0 : Int32) s7) fun j6 => if (gi st a0 3) = 0 then bnd2 (f_Rd_nextPlace κ a0 st) (fun v1 s2 => if (gi s2 a0 1) ≤ v1 then j6 s2 else bnd (gr s2 a0 0) (fun c4 => grd (ly κ c4 = (50, 400)) (if (gat (gi s2 c4) 400 (gi s2 a0 2)) = x1 then j8 (1 : Int32) s2 else j6 s2))) else j6 st
theorem t_Rd_takesByte {κ : Ko} {F : Int32 → AS → Prop} {a0 : Nat} {x1 : Int32} {st : AS} {v : Int32} {s' : AS} (l_a0 : ly κ a0 = (6, 7)) (h : f_Rd_takesByte κ a0 x1 st = some (v, s')) (k : F v s') : C κ M_Rd_takesByte [.ref a0, .int x1] st (RI F) := by
  unfold f_Rd_takesByte at h
  refine e_Rd_takesByte ?_
  obtain ⟨j8, hdj8, h⟩ := jn_some h
  have hj8 : ∀ (v9 : Int32) (s10 : AS), j8 v9 s10 = some (v, s') → V κ M_Rd_takesByte (RI F) 38 [some (.ref a0), none, none] [.int v9] s10 := by
    intro v9 s10 h
    rw [hdj8] at h
    refine b_Rd_takesByte_38  (k1 := fun e13 => ?_) (k2 := fun e13 => ?_)
    · replace h := if_t e13 h
      obtain ⟨h11, h⟩ := grd_some h
      exact b_Rd_takesByte_53 (nz2 := h11) (k1 := lfI h k)
    · replace h := if_f e13 h
      obtain ⟨h12, h⟩ := grd_some h
      exact b_Rd_takesByte_43 (l_a0 := l_a0) (nz2 := h12) (k1 := lfI h k)
  clear hdj8
  obtain ⟨j6, hdj6, h⟩ := jn_some h
  have hj6 : ∀ (s7 : AS), j6 s7 = some (v, s') → V κ M_Rd_takesByte (RI F) 37 [some (.ref a0), none, none] [] s7 := by
    intro s7 h
    rw [hdj6] at h
    refine b_Rd_takesByte_37  (k1 := ?_)
    exact hj8 _ _  h
  clear hdj6
  refine b_Rd_takesByte_0 (l_a0 := l_a0) (k1 := fun e14 => ?_) (k2 := fun e14 => ?_)
  · replace h := if_f e14 h
    exact hj6 _  h
  · replace h := if_t e14 h
    obtain ⟨v1, s2, h15, h⟩ := bnd2_some h
    refine b_Rd_takesByte_7 (l_a0 := l_a0) (k1 := t_Rd_nextPlace l_a0 h15 ?_)
    refine b_Rd_takesByte_11 (l_a0 := l_a0) (k1 := fun e16 => ?_) (k2 := fun e16 => ?_)
    · replace h := if_t e16 h
      exact hj6 _  h
    · replace h := if_f e16 h
      obtain ⟨c4, h3, h⟩ := bnd_some h
      obtain ⟨l5, h⟩ := grd_some h
      refine b_Rd_takesByte_18 (l_a0 := l_a0) (g1 := h3) (k2 := t_X_at l5 rfl ?_)
      refine b_Rd_takesByte_29  (k1 := fun e17 => ?_) (k2 := fun e17 => ?_)
      · replace h := if_f e17 h
        exact hj6 _  h
      · replace h := if_t e17 h
        refine b_Rd_takesByte_33  (k1 := ?_)
        exact hj8 _ _  h
noncomputable def f_Cd_stepCount (κ : Ko) (a0 : Nat) (st : AS) : Int32 := (gi st a0 3)
theorem t_Cd_stepCount {κ : Ko} {F : Int32 → AS → Prop} {a0 : Nat} {st : AS} {v : Int32} (l_a0 : ly κ a0 = (0, 4)) (h : f_Cd_stepCount κ a0 st = v) (k : F v st) : C κ M_Cd_stepCount [.ref a0] st (RI F) := by
  unfold f_Cd_stepCount at h
  refine e_Cd_stepCount ?_
  exact b_Cd_stepCount_0 (l_a0 := l_a0) (k1 := lfIPT h k)
noncomputable def f_Cd_add (κ : Ko) (a0 : Nat) (x1 : Int32) (x2 : Int32) (st : AS) : AS := (ui (gput (gput st (a0 + 1) 400 (gi st a0 3) x1) (a0 + 2) 400 (gi (gput st (a0 + 1) 400 (gi st a0 3) x1) a0 3) x2) a0 3 ((gi (gput (gput st (a0 + 1) 400 (gi st a0 3) x1) (a0 + 2) 400 (gi (gput st (a0 + 1) 400 (gi st a0 3) x1) a0 3) x2) a0 3) + 1))
theorem t_Cd_add {κ : Ko} {F : AS → Prop} {a0 : Nat} {x1 : Int32} {x2 : Int32} {st : AS} {s' : AS} (l_a0 : ly κ a0 = (0, 4)) (h : f_Cd_add κ a0 x1 x2 st = s') (k : F s') : C κ M_Cd_add [.ref a0, .int x1, .int x2] st (RV F) := by
  unfold f_Cd_add at h
  refine e_Cd_add ?_
  refine b_Cd_add_0 (l_a0 := l_a0) (k1 := t_X_put (co0 1 50 400 rfl l_a0) rfl ?_)
  refine b_Cd_add_12 (l_a0 := l_a0) (k1 := t_X_put (co0 2 50 400 rfl l_a0) rfl ?_)
  exact b_Cd_add_24 (l_a0 := l_a0) (k1 := lfVT h k)
noncomputable def f_Rd_countValue (κ : Ko) (a0 : Nat) (x1 : Int32) (st : AS) : AS := jn (fun (s2 : AS) => (ui s2 a0 4 ((gi s2 a0 4) + 1))) fun j1 => if (gi st a0 4) = 60 then j1 (f_Rd_fail κ a0 x1 (3 : Int32) st) else j1 st
theorem t_Rd_countValue {κ : Ko} {F : AS → Prop} {a0 : Nat} {x1 : Int32} {st : AS} {s' : AS} (l_a0 : ly κ a0 = (6, 7)) (h : f_Rd_countValue κ a0 x1 st = s') (k : F s') : C κ M_Rd_countValue [.ref a0, .int x1] st (RV F) := by
  unfold f_Rd_countValue at h
  refine e_Rd_countValue ?_
  obtain ⟨j1, hdj1, h⟩ := jn_some h
  have hj1 : ∀ (s2 : AS), j1 s2 = s' → V κ M_Rd_countValue (RV F) 15 [some (.ref a0), none] [] s2 := by
    intro s2 h
    rw [hdj1] at h
    exact b_Rd_countValue_15 (l_a0 := l_a0) (k1 := lfVT h k)
  clear hdj1
  refine b_Rd_countValue_0 (l_a0 := l_a0) (k1 := fun e3 => ?_) (k2 := fun e3 => ?_)
  · replace h := if_f e3 h
    exact hj1 _  h
  · replace h := if_t e3 h
    refine b_Rd_countValue_9 (l_a0 := l_a0) (k1 := t_Rd_fail l_a0 rfl ?_)
    exact hj1 _  h
noncomputable def f_Rd_value (κ : Ko) (iw : Nat) (a0 : Nat) (st : AS) : Option AS := bnd2 (f_Rd_nextPlace κ a0 st) (fun v1 s2 => grd (gr s2 a0 6 = some (kK (kt κ) iw)) (bnd2 (f_Rd_wordAmong κ a0 iw s2) (fun v4 s5 => jn (fun (s15 : AS) => some (f_Rd_countValue κ a0 v1 s15)) fun j14 => if v4 = ((-1)) then bnd (gr s5 a0 5) (fun c10 => grd (ly κ c10 = (0, 4)) (bnd2 (f_Rd_number κ a0 (0 : Int32) (99999 : Int32) s5) (fun v12 s13 => j14 (f_Cd_add κ c10 (0 : Int32) v12 s13)))) else bnd (gr s5 a0 5) (fun c7 => grd (ly κ c7 = (0, 4)) (j14 (f_Cd_add κ c7 (1 : Int32) v4 s5))))))
theorem t_Rd_value {κ : Ko} {F : AS → Prop} {iw : Nat} (hiw : iw < 11) {a0 : Nat} {st : AS} {s' : AS} (l_a0 : ly κ a0 = (6, 7)) (h : f_Rd_value κ iw a0 st = some s') (k : F s') : C κ M_Rd_value [.ref a0] st (RV F) := by
  unfold f_Rd_value at h
  refine e_Rd_value ?_
  obtain ⟨v1, s2, h16, h⟩ := bnd2_some h
  refine b_Rd_value_0 (l_a0 := l_a0) (k1 := t_Rd_nextPlace l_a0 h16 ?_)
  obtain ⟨h3, h⟩ := grd_some h
  obtain ⟨v4, s5, h17, h⟩ := bnd2_some h
  refine b_Rd_value_4 (l_a0 := l_a0) (g1 := h3) (k2 := t_Rd_wordAmong l_a0 hiw h17 ?_)
  obtain ⟨j14, hdj14, h⟩ := jn_some h
  have hj14 : ∀ (s15 : AS), j14 s15 = some s' → V κ M_Rd_value (RV F) 46 [some (.ref a0), some (.int v1), none] [] s15 := by
    intro s15 h
    rw [hdj14] at h
    refine b_Rd_value_46 (l_a0 := l_a0) (k1 := t_Rd_countValue l_a0 rfl ?_)
    exact b_Rd_value_51  (k1 := lfV h k)
  clear hdj14
  refine b_Rd_value_13  (k1 := fun e18 => ?_) (k2 := fun e18 => ?_)
  · replace h := if_f e18 h
    obtain ⟨c7, h6, h⟩ := bnd_some h
    obtain ⟨l8, h⟩ := grd_some h
    refine b_Rd_value_37 (l_a0 := l_a0) (g1 := h6) (l_r3 := l8) (k2 := t_Cd_add l8 rfl ?_)
    exact hj14 _  h
  · replace h := if_t e18 h
    obtain ⟨c10, h9, h⟩ := bnd_some h
    obtain ⟨l11, h⟩ := grd_some h
    obtain ⟨v12, s13, h19, h⟩ := bnd2_some h
    refine b_Rd_value_19 (l_a0 := l_a0) (g1 := h9) (k2 := t_Rd_number l_a0 h19 ?_)
    refine b_Rd_value_31 (l_c0 := l11) (k1 := t_Cd_add l11 rfl ?_)
    refine b_Rd_value_34  (k1 := ?_)
    exact hj14 _  h
noncomputable def f_Rd_termSign (κ : Ko) (a0 : Nat) (st : AS) : Option (Int32 × AS) := bnd2 (f_Rd_takesByte κ a0 (43 : Int32) st) (fun v1 s2 => if v1 = 0 then bnd2 (f_Rd_takesByte κ a0 (45 : Int32) s2) (fun v3 s4 => if v3 = 0 then bnd2 (f_Rd_takesByte κ a0 (42 : Int32) s4) (fun v5 s6 => if v5 = 0 then bnd2 (f_Rd_takesByte κ a0 (47 : Int32) s6) (fun v7 s8 => some ((if v7 = 0 then ((-1) : Int32) else (5 : Int32) : Int32), s8)) else some ((4 : Int32), s6)) else some ((3 : Int32), s4)) else some ((2 : Int32), s2))
theorem t_Rd_termSign {κ : Ko} {F : Int32 → AS → Prop} {a0 : Nat} {st : AS} {v : Int32} {s' : AS} (l_a0 : ly κ a0 = (6, 7)) (h : f_Rd_termSign κ a0 st = some (v, s')) (k : F v s') : C κ M_Rd_termSign [.ref a0] st (RI F) := by
  unfold f_Rd_termSign at h
  refine e_Rd_termSign ?_
  obtain ⟨v1, s2, h9, h⟩ := bnd2_some h
  refine b_Rd_termSign_0 (l_a0 := l_a0) (k1 := t_Rd_takesByte l_a0 h9 ?_)
  refine b_Rd_termSign_6  (k1 := fun e10 => ?_) (k2 := fun e10 => ?_)
  · replace h := if_t e10 h
    obtain ⟨v3, s4, h11, h⟩ := bnd2_some h
    refine b_Rd_termSign_11 (l_a0 := l_a0) (k1 := t_Rd_takesByte l_a0 h11 ?_)
    refine b_Rd_termSign_17  (k1 := fun e12 => ?_) (k2 := fun e12 => ?_)
    · replace h := if_t e12 h
      obtain ⟨v5, s6, h13, h⟩ := bnd2_some h
      refine b_Rd_termSign_22 (l_a0 := l_a0) (k1 := t_Rd_takesByte l_a0 h13 ?_)
      refine b_Rd_termSign_28  (k1 := fun e14 => ?_) (k2 := fun e14 => ?_)
      · replace h := if_t e14 h
        obtain ⟨v7, s8, h15, h⟩ := bnd2_some h
        refine b_Rd_termSign_33 (l_a0 := l_a0) (k1 := t_Rd_takesByte l_a0 h15 ?_)
        have K17 : (RI F) (some (.int (if v7 = 0 then ((-1) : Int32) else (5 : Int32) : Int32))) s8 := lfI h k
        refine b_Rd_termSign_39  (k1 := fun e18 => ?_) (k2 := fun e18 => ?_)
        · exact b_Rd_termSign_46  (k1 := (ite_t (P := fun z => (RI F) (some (.int z)) s8) e18 K17))
        · exact b_Rd_termSign_42  (k1 := (ite_f (P := fun z => (RI F) (some (.int z)) s8) e18 K17))
      · replace h := if_f e14 h
        exact b_Rd_termSign_31  (k1 := lfI h k)
    · replace h := if_f e12 h
      exact b_Rd_termSign_20  (k1 := lfI h k)
  · replace h := if_f e10 h
    exact b_Rd_termSign_9  (k1 := lfI h k)
noncomputable def L_Rd_sum_10 (κ : Ko) (iw : Nat) : Nat → Nat → Int32 → Int32 → Int32 → AS → Option AS
  | 0, _, _, _, _, _ => none
  | d + 1, a0, x1, x2, x3, st => if 400 ≤ x3 then some st else if x2 = 0 then some st else bnd2 (f_Rd_termSign κ a0 st) (fun v2 s3 => jn (bnd (f_Rd_value κ iw a0 s3) (fun s13 => bnd (gr s13 a0 5) (fun c15 => grd (ly κ c15 = (0, 4)) (L_Rd_sum_10 κ iw  d a0 x1 x2 (x3 + 1) (f_Cd_add κ c15 v2 (0 : Int32) s13))))) fun j12 => if v2 = 4 then j12 else if v2 = 5 then j12 else jn (fun (s8 : AS) => jn (fun (s11 : AS) => L_Rd_sum_10 κ iw  d a0 v2 (if v2 = ((-1)) then (0 : Int32) else (1 : Int32) : Int32) (x3 + 1) s11) fun j10 => if (if v2 = ((-1)) then (0 : Int32) else (1 : Int32) : Int32) = 0 then j10 s8 else bnd (f_Rd_value κ iw a0 s8) (fun s9 => j10 s9)) fun j7 => if x1 = ((-1)) then j7 s3 else bnd (gr s3 a0 5) (fun c5 => grd (ly κ c5 = (0, 4)) (j7 (f_Cd_add κ c5 x1 (0 : Int32) s3))))
noncomputable def f_Rd_sum (κ : Ko) (iw : Nat) (a0 : Nat) (st : AS) : Option AS := bnd (f_Rd_value κ iw a0 st) (fun s1 => L_Rd_sum_10 κ iw  FU a0 ((-1) : Int32) (1 : Int32) (0 : Int32) s1)
theorem l_Rd_sum_10 {κ : Ko} {F : AS → Prop} {iw : Nat} (hiw : iw < 11) {s' : AS} (k : F s') : ∀ (d : Nat) (a0 : Nat) (x1 : Int32) (x2 : Int32) (x3 : Int32) (st : AS), ly κ a0 = (6, 7) → L_Rd_sum_10 κ iw  d a0 x1 x2 x3 st = some s' → V κ M_Rd_sum (RV F) 10 [some (.ref a0), some (.int x1), some (.int x2), some (.int x3), none] [] st := by
  intro d
  induction d with
  | zero =>
    intro a0 x1 x2 x3 st l_a0 h
    exact nn_some h
  | succ d ih =>
    intro a0 x1 x2 x3 st l_a0 h
    rw [L_Rd_sum_10] at h
    refine b_Rd_sum_10  (k1 := fun e17 => ?_) (k2 := fun e17 => ?_)
    · replace h := if_t e17 h
      exact b_Rd_sum_99  (k1 := lfV h k)
    · replace h := if_f e17 h
      refine b_Rd_sum_17  (k1 := fun e18 => ?_) (k2 := fun e18 => ?_)
      · replace h := if_t e18 h
        exact b_Rd_sum_99  (k1 := lfV h k)
      · replace h := if_f e18 h
        obtain ⟨v2, s3, h19, h⟩ := bnd2_some h
        refine b_Rd_sum_21 (l_a0 := l_a0) (k1 := t_Rd_termSign l_a0 h19 ?_)
        obtain ⟨j12, hdj12, h⟩ := jn_some h
        have hj12 : j12 = some s' → V κ M_Rd_sum (RV F) 39 [some (.ref a0), some (.int x1), some (.int x2), some (.int x3), some (.int v2)] [] s3 := by
          intro h
          rw [hdj12] at h
          obtain ⟨s13, h20, h⟩ := bnd_some h
          refine b_Rd_sum_39 (l_a0 := l_a0) (k1 := t_Rd_value hiw l_a0 h20 ?_)
          obtain ⟨c15, h14, h⟩ := bnd_some h
          obtain ⟨l16, h⟩ := grd_some h
          refine b_Rd_sum_43 (l_a0 := l_a0) (g1 := h14) (l_r5 := l16) (k2 := t_Cd_add l16 rfl ?_)
          refine b_Rd_sum_53  (k1 := ?_)
          exact ih _ _ _ _ _ l_a0 h
        clear hdj12
        refine b_Rd_sum_25  (k1 := fun e21 => ?_) (k2 := fun e21 => ?_)
        · replace h := if_t e21 h
          exact hj12  h
        · replace h := if_f e21 h
          refine b_Rd_sum_33  (k1 := fun e22 => ?_) (k2 := fun e22 => ?_)
          · replace h := if_f e22 h
            obtain ⟨j7, hdj7, h⟩ := jn_some h
            have hj7 : ∀ (s8 : AS), j7 s8 = some s' → V κ M_Rd_sum (RV F) 70 [some (.ref a0), none, none, some (.int x3), some (.int v2)] [] s8 := by
              intro s8 h
              rw [hdj7] at h
              have K24 : V κ M_Rd_sum (RV F) 84 [some (.ref a0), some (.int v2), none, some (.int x3), none] [.int (if v2 = ((-1)) then (0 : Int32) else (1 : Int32) : Int32)] s8 := by
                obtain ⟨j10, hdj10, h⟩ := jn_some h
                have hj10 : ∀ (s11 : AS), j10 s11 = some s' → V κ M_Rd_sum (RV F) 93 [some (.ref a0), some (.int v2), some (.int (if v2 = ((-1)) then (0 : Int32) else (1 : Int32) : Int32)), some (.int x3), none] [] s11 := by
                  intro s11 h
                  rw [hdj10] at h
                  refine b_Rd_sum_93  (k1 := ?_)
                  exact ih _ _ _ _ _ l_a0 h
                clear hdj10
                refine b_Rd_sum_84  (k1 := fun e25 => ?_) (k2 := fun e25 => ?_)
                · replace h := if_t e25 h
                  exact hj10 _  h
                · replace h := if_f e25 h
                  obtain ⟨s9, h26, h⟩ := bnd_some h
                  refine b_Rd_sum_89 (l_a0 := l_a0) (k1 := t_Rd_value hiw l_a0 h26 ?_)
                  exact hj10 _  h
              refine b_Rd_sum_70  (k1 := fun e27 => ?_) (k2 := fun e27 => ?_)
              · refine b_Rd_sum_83  (k1 := ?_)
                exact (ite_t (P := fun z => V κ M_Rd_sum (RV F) 84 [some (.ref a0), some (.int v2), none, some (.int x3), none] [.int z] s8) e27 K24)
              · refine b_Rd_sum_79  (k1 := ?_)
                exact (ite_f (P := fun z => V κ M_Rd_sum (RV F) 84 [some (.ref a0), some (.int v2), none, some (.int x3), none] [.int z] s8) e27 K24)
            clear hdj7
            refine b_Rd_sum_56  (k1 := fun e28 => ?_) (k2 := fun e28 => ?_)
            · replace h := if_t e28 h
              exact hj7 _  h
            · replace h := if_f e28 h
              obtain ⟨c5, h4, h⟩ := bnd_some h
              obtain ⟨l6, h⟩ := grd_some h
              refine b_Rd_sum_61 (l_a0 := l_a0) (g1 := h4) (l_r4 := l6) (k2 := t_Cd_add l6 rfl ?_)
              exact hj7 _  h
          · replace h := if_t e22 h
            exact hj12  h
theorem t_Rd_sum {κ : Ko} {F : AS → Prop} {iw : Nat} (hiw : iw < 11) {a0 : Nat} {st : AS} {s' : AS} (l_a0 : ly κ a0 = (6, 7)) (h : f_Rd_sum κ iw a0 st = some s') (k : F s') : C κ M_Rd_sum [.ref a0] st (RV F) := by
  unfold f_Rd_sum at h
  refine e_Rd_sum ?_
  obtain ⟨s1, h29, h⟩ := bnd_some h
  refine b_Rd_sum_0 (l_a0 := l_a0) (k1 := t_Rd_value hiw l_a0 h29 ?_)
  refine b_Rd_sum_4  (k1 := ?_)
  refine l_Rd_sum_10 hiw k FU _ _ _ _ _ l_a0 h
noncomputable def f_Rd_takesWord (κ : Ko) (a0 : Nat) (i1 : Nat) (st : AS) : Option (Int32 × AS) := bnd2 (f_Rd_wordAmong κ a0 i1 st) (fun v1 s2 => some ((if v1 = ((-1)) then (0 : Int32) else (1 : Int32) : Int32), s2))
theorem t_Rd_takesWord {κ : Ko} {F : Int32 → AS → Prop} {a0 : Nat} {i1 : Nat} {st : AS} {v : Int32} {s' : AS} (l_a0 : ly κ a0 = (6, 7)) (j_i1 : i1 < 11) (h : f_Rd_takesWord κ a0 i1 st = some (v, s')) (k : F v s') : C κ M_Rd_takesWord [.ref a0, .ref (kK (kt κ) i1)] st (RI F) := by
  unfold f_Rd_takesWord at h
  refine e_Rd_takesWord ?_
  obtain ⟨v1, s2, h3, h⟩ := bnd2_some h
  refine b_Rd_takesWord_0 (l_a0 := l_a0) (k1 := t_Rd_wordAmong l_a0 j_i1 h3 ?_)
  have K5 : (RI F) (some (.int (if v1 = ((-1)) then (0 : Int32) else (1 : Int32) : Int32))) s2 := lfI h k
  refine b_Rd_takesWord_5  (k1 := fun e6 => ?_) (k2 := fun e6 => ?_)
  · exact b_Rd_takesWord_13  (k1 := (ite_t (P := fun z => (RI F) (some (.int z)) s2) e6 K5))
  · exact b_Rd_takesWord_9  (k1 := (ite_f (P := fun z => (RI F) (some (.int z)) s2) e6 K5))
noncomputable def L_Rd_test_12 (κ : Ko) (iw : Nat) (Ff : Nat → Int32 → AS → Option AS) : Nat → Nat → Int32 → Int32 → Int32 → Int32 → AS → Option AS
  | 0, _, _, _, _, _, _ => none
  | d + 1, a0, x1, x2, x3, x4, st => if 400 ≤ x4 then some st else if x3 = 0 then some st else bnd2 (f_Rd_takesWord κ a0 4 st) (fun v2 s3 => if v2 = 0 then jn (fun (s8 : AS) => bnd2 (f_Rd_takesWord κ a0 5 s8) (fun v9 s10 => jn (fun (s13 : AS) => L_Rd_test_12 κ iw Ff  d a0 x1 v9 v9 (x4 + 1) s13) fun j12 => if v9 = 0 then j12 s10 else bnd (Ff a0 x1 s10) (fun s11 => j12 s11))) fun j7 => if x2 = 0 then j7 s3 else bnd (gr s3 a0 5) (fun c5 => grd (ly κ c5 = (0, 4)) (j7 (f_Cd_add κ c5 (13 : Int32) (0 : Int32) s3))) else bnd (Ff a0 x1 s3) (fun s14 => bnd (gr s14 a0 5) (fun c16 => grd (ly κ c16 = (0, 4)) (L_Rd_test_12 κ iw Ff  d a0 x1 x2 x3 (x4 + 1) (f_Cd_add κ c16 (12 : Int32) (0 : Int32) s14)))))
noncomputable def g_Rd_test (κ : Ko) (iw : Nat) (Ff : Nat → Int32 → AS → Option AS) (a0 : Nat) (x1 : Int32) (st : AS) : Option AS := bnd (Ff a0 x1 st) (fun s1 => L_Rd_test_12 κ iw Ff  FU a0 x1 (0 : Int32) (1 : Int32) (0 : Int32) s1)
theorem l_Rd_test_12 {κ : Ko} {F : AS → Prop} {iw : Nat} (hiw : iw < 11) {dk : Nat} {Ff : Nat → Int32 → AS → Option AS} (hF : ∀ {F : AS → Prop} {a0 : Nat} {x1 : Int32} {st s' : AS}, ly κ a0 = (6, 7) → Ff a0 x1 st = some s' → F s' → C κ (M_Rd_fact dk) [.ref a0, .int x1] st (RV F)) {s' : AS} (k : F s') : ∀ (d : Nat) (a0 : Nat) (x1 : Int32) (x2 : Int32) (x3 : Int32) (x4 : Int32) (st : AS), ly κ a0 = (6, 7) → L_Rd_test_12 κ iw Ff  d a0 x1 x2 x3 x4 st = some s' → V κ (M_Rd_test dk) (RV F) 12 [some (.ref a0), some (.int x1), some (.int x2), some (.int x3), some (.int x4)] [] st := by
  intro d
  induction d with
  | zero =>
    intro a0 x1 x2 x3 x4 st l_a0 h
    exact nn_some h
  | succ d ih =>
    intro a0 x1 x2 x3 x4 st l_a0 h
    rw [L_Rd_test_12] at h
    refine b_Rd_test_12  (k1 := fun e18 => ?_) (k2 := fun e18 => ?_)
    · replace h := if_t e18 h
      exact b_Rd_test_89  (k1 := lfV h k)
    · replace h := if_f e18 h
      refine b_Rd_test_20  (k1 := fun e19 => ?_) (k2 := fun e19 => ?_)
      · replace h := if_t e19 h
        exact b_Rd_test_89  (k1 := lfV h k)
      · replace h := if_f e19 h
        obtain ⟨v2, s3, h20, h⟩ := bnd2_some h
        refine b_Rd_test_24 (l_a0 := l_a0) (k1 := t_Rd_takesWord l_a0 (by decide) h20 ?_)
        refine b_Rd_test_30  (k1 := fun e21 => ?_) (k2 := fun e21 => ?_)
        · replace h := if_t e21 h
          obtain ⟨j7, hdj7, h⟩ := jn_some h
          have hj7 : ∀ (s8 : AS), j7 s8 = some s' → V κ (M_Rd_test dk) (RV F) 65 [some (.ref a0), some (.int x1), none, none, some (.int x4)] [] s8 := by
            intro s8 h
            rw [hdj7] at h
            obtain ⟨v9, s10, h22, h⟩ := bnd2_some h
            refine b_Rd_test_65 (l_a0 := l_a0) (k1 := t_Rd_takesWord l_a0 (by decide) h22 ?_)
            obtain ⟨j12, hdj12, h⟩ := jn_some h
            have hj12 : ∀ (s13 : AS), j12 s13 = some s' → V κ (M_Rd_test dk) (RV F) 83 [some (.ref a0), some (.int x1), some (.int v9), some (.int v9), some (.int x4)] [] s13 := by
              intro s13 h
              rw [hdj12] at h
              refine b_Rd_test_83  (k1 := ?_)
              exact ih _ _ _ _ _ _ l_a0 h
            clear hdj12
            refine b_Rd_test_71  (k1 := fun e23 => ?_) (k2 := fun e23 => ?_)
            · replace h := if_t e23 h
              exact hj12 _  h
            · replace h := if_f e23 h
              obtain ⟨s11, h24, h⟩ := bnd_some h
              refine b_Rd_test_78 (l_a0 := l_a0) (k1 := hF l_a0 h24 ?_)
              exact hj12 _  h
          clear hdj7
          refine b_Rd_test_51  (k1 := fun e25 => ?_) (k2 := fun e25 => ?_)
          · replace h := if_t e25 h
            exact hj7 _  h
          · replace h := if_f e25 h
            obtain ⟨c5, h4, h⟩ := bnd_some h
            obtain ⟨l6, h⟩ := grd_some h
            refine b_Rd_test_55 (l_a0 := l_a0) (g1 := h4) (l_r3 := l6) (k2 := t_Cd_add l6 rfl ?_)
            exact hj7 _  h
        · replace h := if_f e21 h
          obtain ⟨s14, h26, h⟩ := bnd_some h
          refine b_Rd_test_33 (l_a0 := l_a0) (k1 := hF l_a0 h26 ?_)
          obtain ⟨c16, h15, h⟩ := bnd_some h
          obtain ⟨l17, h⟩ := grd_some h
          refine b_Rd_test_38 (l_a0 := l_a0) (g1 := h15) (l_r5 := l17) (k2 := t_Cd_add l17 rfl ?_)
          refine b_Rd_test_48  (k1 := ?_)
          exact ih _ _ _ _ _ _ l_a0 h
theorem t_Rd_test {κ : Ko} {F : AS → Prop} {dk : Nat} {Ff : Nat → Int32 → AS → Option AS} (hF : ∀ {F : AS → Prop} {a0 : Nat} {x1 : Int32} {st s' : AS}, ly κ a0 = (6, 7) → Ff a0 x1 st = some s' → F s' → C κ (M_Rd_fact dk) [.ref a0, .int x1] st (RV F)) {iw : Nat} (hiw : iw < 11) {a0 : Nat} {x1 : Int32} {st : AS} {s' : AS} (l_a0 : ly κ a0 = (6, 7)) (h : g_Rd_test κ iw Ff a0 x1 st = some s') (k : F s') : C κ (M_Rd_test dk) [.ref a0, .int x1] st (RV F) := by
  unfold g_Rd_test at h
  refine e_Rd_test ?_
  obtain ⟨s1, h27, h⟩ := bnd_some h
  refine b_Rd_test_0 (l_a0 := l_a0) (k1 := hF l_a0 h27 ?_)
  refine b_Rd_test_5  (k1 := ?_)
  refine l_Rd_test_12 hiw hF k FU _ _ _ _ _ _ l_a0 h
noncomputable def f_Lw_add (κ : Ko) (a0 : Nat) (x1 : Int32) (x2 : Int32) (x3 : Int32) (x4 : Int32) (st : AS) : AS := (ui (gput (gput (gput (gput st (a0 + 5) 12 (gi st a0 5) x1) (a0 + 6) 12 (gi (gput st (a0 + 5) 12 (gi st a0 5) x1) a0 5) x2) (a0 + 7) 12 (gi (gput (gput st (a0 + 5) 12 (gi st a0 5) x1) (a0 + 6) 12 (gi (gput st (a0 + 5) 12 (gi st a0 5) x1) a0 5) x2) a0 5) x3) (a0 + 8) 12 (gi (gput (gput (gput st (a0 + 5) 12 (gi st a0 5) x1) (a0 + 6) 12 (gi (gput st (a0 + 5) 12 (gi st a0 5) x1) a0 5) x2) (a0 + 7) 12 (gi (gput (gput st (a0 + 5) 12 (gi st a0 5) x1) (a0 + 6) 12 (gi (gput st (a0 + 5) 12 (gi st a0 5) x1) a0 5) x2) a0 5) x3) a0 5) x4) a0 5 ((gi (gput (gput (gput (gput st (a0 + 5) 12 (gi st a0 5) x1) (a0 + 6) 12 (gi (gput st (a0 + 5) 12 (gi st a0 5) x1) a0 5) x2) (a0 + 7) 12 (gi (gput (gput st (a0 + 5) 12 (gi st a0 5) x1) (a0 + 6) 12 (gi (gput st (a0 + 5) 12 (gi st a0 5) x1) a0 5) x2) a0 5) x3) (a0 + 8) 12 (gi (gput (gput (gput st (a0 + 5) 12 (gi st a0 5) x1) (a0 + 6) 12 (gi (gput st (a0 + 5) 12 (gi st a0 5) x1) a0 5) x2) (a0 + 7) 12 (gi (gput (gput st (a0 + 5) 12 (gi st a0 5) x1) (a0 + 6) 12 (gi (gput st (a0 + 5) 12 (gi st a0 5) x1) a0 5) x2) a0 5) x3) a0 5) x4) a0 5) + 1))
theorem t_Lw_add {κ : Ko} {F : AS → Prop} {a0 : Nat} {x1 : Int32} {x2 : Int32} {x3 : Int32} {x4 : Int32} {st : AS} {s' : AS} (l_a0 : ly κ a0 = (3, 7)) (h : f_Lw_add κ a0 x1 x2 x3 x4 st = s') (k : F s') : C κ M_Lw_add [.ref a0, .int x1, .int x2, .int x3, .int x4] st (RV F) := by
  unfold f_Lw_add at h
  refine e_Lw_add ?_
  refine b_Lw_add_0 (l_a0 := l_a0) (k1 := t_X_put (co3 5 50 12 rfl l_a0) rfl ?_)
  refine b_Lw_add_12 (l_a0 := l_a0) (k1 := t_X_put (co3 6 50 12 rfl l_a0) rfl ?_)
  refine b_Lw_add_24 (l_a0 := l_a0) (k1 := t_X_put (co3 7 50 12 rfl l_a0) rfl ?_)
  refine b_Lw_add_36 (l_a0 := l_a0) (k1 := t_X_put (co3 8 50 12 rfl l_a0) rfl ?_)
  exact b_Lw_add_49 (l_a0 := l_a0) (k1 := lfVT h k)
noncomputable def f_Rd_close (κ : Ko) (a0 : Nat) (st : AS) : Option (Int32 × AS) := bnd2 (f_Rd_nextPlace κ a0 st) (fun v1 s2 => jn (fun (s4 : AS) => some (gi s4 a0 3, s4)) fun j3 => if (gi s2 a0 1) ≤ v1 then j3 s2 else j3 (f_Rd_fail κ a0 (gi s2 a0 2) (0 : Int32) s2))
theorem t_Rd_close {κ : Ko} {F : Int32 → AS → Prop} {a0 : Nat} {st : AS} {v : Int32} {s' : AS} (l_a0 : ly κ a0 = (6, 7)) (h : f_Rd_close κ a0 st = some (v, s')) (k : F v s') : C κ M_Rd_close [.ref a0] st (RI F) := by
  unfold f_Rd_close at h
  refine e_Rd_close ?_
  obtain ⟨v1, s2, h5, h⟩ := bnd2_some h
  refine b_Rd_close_0 (l_a0 := l_a0) (k1 := t_Rd_nextPlace l_a0 h5 ?_)
  obtain ⟨j3, hdj3, h⟩ := jn_some h
  have hj3 : ∀ (s4 : AS), j3 s4 = some (v, s') → V κ M_Rd_close (RI F) 20 [some (.ref a0)] [] s4 := by
    intro s4 h
    rw [hdj3] at h
    exact b_Rd_close_20 (l_a0 := l_a0) (k1 := lfI h k)
  clear hdj3
  refine b_Rd_close_4 (l_a0 := l_a0) (k1 := fun e6 => ?_) (k2 := fun e6 => ?_)
  · replace h := if_t e6 h
    exact hj3 _  h
  · replace h := if_f e6 h
    refine b_Rd_close_11 (l_a0 := l_a0) (k1 := t_Rd_fail l_a0 rfl ?_)
    exact hj3 _  h
noncomputable def f_Rd_factSign (κ : Ko) (a0 : Nat) (st : AS) : Option (Int32 × AS) := bnd2 (f_Rd_takesByte κ a0 (61 : Int32) st) (fun v1 s2 => if v1 = 0 then bnd2 (f_Rd_takesByte κ a0 (60 : Int32) s2) (fun v3 s4 => jn (fun (s8 : AS) => jn (fun (v14 : Int32) => jn (fun (s16 : AS) => some ((if v3 = 0 then (if v14 = 0 then (10 : Int32) else (9 : Int32) : Int32) else (if v14 = 0 then (6 : Int32) else (7 : Int32) : Int32) : Int32), s16)) fun j15 => if v14 = 0 then j15 s8 else j15 (ui s8 a0 2 ((gi s8 a0 2) + 1))) fun j13 => jn (j13 (0 : Int32)) fun j12 => if (gi s8 a0 3) = 0 then if (gi s8 a0 1) ≤ (gi s8 a0 2) then j12 else bnd (gr s8 a0 0) (fun c10 => grd (ly κ c10 = (50, 400)) (if (gat (gi s8 c10) 400 (gi s8 a0 2)) = 61 then j13 (1 : Int32) else j12)) else j12) fun j7 => if v3 = 0 then bnd2 (f_Rd_takesByte κ a0 (62 : Int32) s4) (fun v5 s6 => if v5 = 0 then j7 (f_Rd_fail κ a0 (gi s6 a0 2) (0 : Int32) s6) else j7 s6) else j7 s4) else some ((8 : Int32), s2))
theorem t_Rd_factSign {κ : Ko} {F : Int32 → AS → Prop} {a0 : Nat} {st : AS} {v : Int32} {s' : AS} (l_a0 : ly κ a0 = (6, 7)) (h : f_Rd_factSign κ a0 st = some (v, s')) (k : F v s') : C κ M_Rd_factSign [.ref a0] st (RI F) := by
  unfold f_Rd_factSign at h
  refine e_Rd_factSign ?_
  obtain ⟨v1, s2, h17, h⟩ := bnd2_some h
  refine b_Rd_factSign_0 (l_a0 := l_a0) (k1 := t_Rd_takesByte l_a0 h17 ?_)
  refine b_Rd_factSign_6  (k1 := fun e18 => ?_) (k2 := fun e18 => ?_)
  · replace h := if_t e18 h
    obtain ⟨v3, s4, h19, h⟩ := bnd2_some h
    refine b_Rd_factSign_12 (l_a0 := l_a0) (k1 := t_Rd_takesByte l_a0 h19 ?_)
    obtain ⟨j7, hdj7, h⟩ := jn_some h
    have hj7 : ∀ (s8 : AS), j7 s8 = some (v, s') → V κ M_Rd_factSign (RI F) 41 [some (.ref a0), some (.int v3), none] [] s8 := by
      intro s8 h
      rw [hdj7] at h
      obtain ⟨j13, hdj13, h⟩ := jn_some h
      have hj13 : ∀ (v14 : Int32), j13 v14 = some (v, s') → V κ M_Rd_factSign (RI F) 80 [some (.ref a0), some (.int v3), none] [.int v14] s8 := by
        intro v14 h
        rw [hdj13] at h
        obtain ⟨j15, hdj15, h⟩ := jn_some h
        have hj15 : ∀ (s16 : AS), j15 s16 = some (v, s') → V κ M_Rd_factSign (RI F) 95 [none, some (.int v3), some (.int v14)] [] s16 := by
          intro s16 h
          rw [hdj15] at h
          have K21 : (RI F) (some (.int (if v3 = 0 then (if v14 = 0 then (10 : Int32) else (9 : Int32) : Int32) else (if v14 = 0 then (6 : Int32) else (7 : Int32) : Int32) : Int32))) s16 := lfI h k
          refine b_Rd_factSign_95  (k1 := fun e22 => ?_) (k2 := fun e22 => ?_)
          · refine b_Rd_factSign_111  (k1 := fun e23 => ?_) (k2 := fun e23 => ?_)
            · exact b_Rd_factSign_120  (k1 := (ite_t (P := fun z => (RI F) (some (.int z)) s16) e23 (ite_t (P := fun z => (RI F) (some (.int z)) s16) e22 K21)))
            · exact b_Rd_factSign_115  (k1 := (ite_f (P := fun z => (RI F) (some (.int z)) s16) e23 (ite_t (P := fun z => (RI F) (some (.int z)) s16) e22 K21)))
          · refine b_Rd_factSign_99  (k1 := fun e24 => ?_) (k2 := fun e24 => ?_)
            · exact b_Rd_factSign_108  (k1 := (ite_t (P := fun z => (RI F) (some (.int z)) s16) e24 (ite_f (P := fun z => (RI F) (some (.int z)) s16) e22 K21)))
            · exact b_Rd_factSign_103  (k1 := (ite_f (P := fun z => (RI F) (some (.int z)) s16) e24 (ite_f (P := fun z => (RI F) (some (.int z)) s16) e22 K21)))
        clear hdj15
        refine b_Rd_factSign_80  (k1 := fun e25 => ?_) (k2 := fun e25 => ?_)
        · replace h := if_t e25 h
          exact hj15 _  h
        · replace h := if_f e25 h
          refine b_Rd_factSign_85 (l_a0 := l_a0) (k1 := ?_)
          exact hj15 _  h
      clear hdj13
      obtain ⟨j12, hdj12, h⟩ := jn_some h
      have hj12 : j12 = some (v, s') → V κ M_Rd_factSign (RI F) 79 [some (.ref a0), some (.int v3), none] [] s8 := by
        intro h
        rw [hdj12] at h
        refine b_Rd_factSign_79  (k1 := ?_)
        exact hj13 _  h
      clear hdj12
      refine b_Rd_factSign_41 (l_a0 := l_a0) (k1 := fun e26 => ?_) (k2 := fun e26 => ?_)
      · replace h := if_f e26 h
        exact hj12  h
      · replace h := if_t e26 h
        refine b_Rd_factSign_48 (l_a0 := l_a0) (k1 := fun e27 => ?_) (k2 := fun e27 => ?_)
        · replace h := if_t e27 h
          exact hj12  h
        · replace h := if_f e27 h
          obtain ⟨c10, h9, h⟩ := bnd_some h
          obtain ⟨l11, h⟩ := grd_some h
          refine b_Rd_factSign_59 (l_a0 := l_a0) (g1 := h9) (k2 := t_X_at l11 rfl ?_)
          refine b_Rd_factSign_70  (k1 := fun e28 => ?_) (k2 := fun e28 => ?_)
          · replace h := if_f e28 h
            exact hj12  h
          · replace h := if_t e28 h
            refine b_Rd_factSign_75  (k1 := ?_)
            exact hj13 _  h
    clear hdj7
    refine b_Rd_factSign_18  (k1 := fun e29 => ?_) (k2 := fun e29 => ?_)
    · replace h := if_f e29 h
      exact hj7 _  h
    · replace h := if_t e29 h
      obtain ⟨v5, s6, h30, h⟩ := bnd2_some h
      refine b_Rd_factSign_23 (l_a0 := l_a0) (k1 := t_Rd_takesByte l_a0 h30 ?_)
      refine b_Rd_factSign_29  (k1 := fun e31 => ?_) (k2 := fun e31 => ?_)
      · replace h := if_f e31 h
        exact hj7 _  h
      · replace h := if_t e31 h
        refine b_Rd_factSign_32 (l_a0 := l_a0) (k1 := t_Rd_fail l_a0 rfl ?_)
        exact hj7 _  h
  · replace h := if_f e18 h
    exact b_Rd_factSign_9  (k1 := lfI h k)
noncomputable def f_Rd_fact (κ : Ko) (iw : Nat) : Nat → Nat → Int32 → AS → Option AS
  | 0, a0, x1, st => bnd2 (f_Rd_nextPlace κ a0 st) (fun v1 s2 => bnd2 (f_Rd_takesByte κ a0 (91 : Int32) s2) (fun v3 s4 => jn (fun (v10 : Int32) (s11 : AS) => jn (if v10 = 0 then jn (fun (s27 : AS) => some s27) fun j26 => if v3 = 0 then bnd (f_Rd_sum κ iw a0 s11) (fun s14 => bnd2 (f_Rd_nextPlace κ a0 s14) (fun v15 s16 => bnd2 (f_Rd_factSign κ a0 s16) (fun v17 s18 => bnd (f_Rd_sum κ iw a0 (f_Rd_countValue κ a0 v15 s18)) (fun s19 => bnd (gr s19 a0 5) (fun c21 => grd (ly κ c21 = (0, 4)) (j26 (f_Cd_add κ c21 v17 (0 : Int32) s19))))))) else none else none) fun j13 => jn (if x1 < 10 then j13 else some (f_Rd_fail κ a0 v1 (2 : Int32) s11)) fun j12 => if v3 = 0 then if v10 = 0 then j13 else j12 else j12) fun j9 => jn (fun (s8 : AS) => j9 (0 : Int32) s8) fun j7 => if v3 = 0 then bnd2 (f_Rd_takesWord κ a0 3 s4) (fun v5 s6 => if v5 = 0 then j7 s6 else j9 (1 : Int32) s6) else j7 s4))
  | dk + 1, a0, x1, st => bnd2 (f_Rd_nextPlace κ a0 st) (fun v1 s2 => bnd2 (f_Rd_takesByte κ a0 (91 : Int32) s2) (fun v3 s4 => jn (fun (v10 : Int32) (s11 : AS) => jn (if v10 = 0 then jn (fun (s27 : AS) => some s27) fun j26 => if v3 = 0 then bnd (f_Rd_sum κ iw a0 s11) (fun s14 => bnd2 (f_Rd_nextPlace κ a0 s14) (fun v15 s16 => bnd2 (f_Rd_factSign κ a0 s16) (fun v17 s18 => bnd (f_Rd_sum κ iw a0 (f_Rd_countValue κ a0 v15 s18)) (fun s19 => bnd (gr s19 a0 5) (fun c21 => grd (ly κ c21 = (0, 4)) (j26 (f_Cd_add κ c21 v17 (0 : Int32) s19))))))) else bnd (g_Rd_test κ iw (f_Rd_fact κ iw dk) a0 (x1 + 1) s11) (fun s23 => bnd2 (f_Rd_takesByte κ a0 (93 : Int32) s23) (fun v24 s25 => if v24 = 0 then some (f_Rd_fail κ a0 (gi s25 a0 2) (0 : Int32) s25) else j26 s25)) else bnd (f_Rd_fact κ iw dk a0 (x1 + 1) s11) (fun s28 => bnd (gr s28 a0 5) (fun c30 => grd (ly κ c30 = (0, 4)) (some (f_Cd_add κ c30 (11 : Int32) (0 : Int32) s28))))) fun j13 => jn (if x1 < 10 then j13 else some (f_Rd_fail κ a0 v1 (2 : Int32) s11)) fun j12 => if v3 = 0 then if v10 = 0 then j13 else j12 else j12) fun j9 => jn (fun (s8 : AS) => j9 (0 : Int32) s8) fun j7 => if v3 = 0 then bnd2 (f_Rd_takesWord κ a0 3 s4) (fun v5 s6 => if v5 = 0 then j7 s6 else j9 (1 : Int32) s6) else j7 s4))
theorem t_Rd_fact (dk : Nat) : ∀ {κ : Ko} {F : AS → Prop} {iw : Nat} (_ : iw < 11) {a0 : Nat} {x1 : Int32} {st s' : AS} (_ : ly κ a0 = (6, 7)) (_ : f_Rd_fact κ iw dk a0 x1 st = some s') (_ : F s'), C κ (M_Rd_fact dk) [.ref a0, .int x1] st (RV F) := by
  induction dk with
  | zero =>
    intro κ F iw hiw a0 x1 st s' l_a0 h k
    rw [f_Rd_fact] at h
    refine e_Rd_fact ?_
    obtain ⟨v1, s2, h32, h⟩ := bnd2_some h
    refine b_Rd_fact_0 (l_a0 := l_a0) (k1 := t_Rd_nextPlace l_a0 h32 ?_)
    obtain ⟨v3, s4, h33, h⟩ := bnd2_some h
    refine b_Rd_fact_4 (l_a0 := l_a0) (k1 := t_Rd_takesByte l_a0 h33 ?_)
    obtain ⟨j9, hdj9, h⟩ := jn_some h
    have hj9 : ∀ (v10 : Int32) (s11 : AS), j9 v10 s11 = some s' → V κ (M_Rd_fact 0) (RV F) 30 [some (.ref a0), some (.int x1), some (.int v1), some (.int v3), none, none, none] [.int v10] s11 := by
      intro v10 s11 h
      rw [hdj9] at h
      obtain ⟨j13, hdj13, h⟩ := jn_some h
      have hj13 : j13 = some s' → V κ (M_Rd_fact 0) (RV F) 56 [some (.ref a0), some (.int x1), none, some (.int v3), some (.int v10), none, none] [] s11 := by
        intro h
        rw [hdj13] at h
        refine b_Rd_fact_56  (k1 := fun e34 => ?_) (k2 := fun e34 => ?_)
        · replace h := if_t e34 h
          obtain ⟨j26, hdj26, h⟩ := jn_some h
          have hj26 : ∀ (s27 : AS), j26 s27 = some s' → V κ (M_Rd_fact 0) (RV F) 149 [none, none, none, none, none, none, none] [] s27 := by
            intro s27 h
            rw [hdj26] at h
            exact b_Rd_fact_149  (k1 := lfV h k)
          clear hdj26
          refine b_Rd_fact_81  (k1 := fun e35 => ?_) (k2 := fun e35 => ?_)
          · replace h := if_t e35 h
            obtain ⟨s14, h36, h⟩ := bnd_some h
            refine b_Rd_fact_113 (l_a0 := l_a0) (k1 := t_Rd_sum hiw l_a0 h36 ?_)
            obtain ⟨v15, s16, h37, h⟩ := bnd2_some h
            refine b_Rd_fact_117 (l_a0 := l_a0) (k1 := t_Rd_nextPlace l_a0 h37 ?_)
            obtain ⟨v17, s18, h38, h⟩ := bnd2_some h
            refine b_Rd_fact_121 (l_a0 := l_a0) (k1 := t_Rd_factSign l_a0 h38 ?_)
            refine b_Rd_fact_127 (l_a0 := l_a0) (k1 := t_Rd_countValue l_a0 rfl ?_)
            obtain ⟨s19, h39, h⟩ := bnd_some h
            refine b_Rd_fact_135 (l_a0 := l_a0) (k1 := t_Rd_sum hiw l_a0 h39 ?_)
            obtain ⟨c21, h20, h⟩ := bnd_some h
            obtain ⟨l22, h⟩ := grd_some h
            refine b_Rd_fact_139 (l_a0 := l_a0) (g1 := h20) (l_r2 := l22) (k2 := t_Cd_add l22 rfl ?_)
            exact hj26 _  h
          · replace h := if_f e35 h
            exact nn_some h
        · replace h := if_f e34 h
          exact nn_some h
      clear hdj13
      obtain ⟨j12, hdj12, h⟩ := jn_some h
      have hj12 : j12 = some s' → V κ (M_Rd_fact 0) (RV F) 41 [some (.ref a0), some (.int x1), some (.int v1), some (.int v3), some (.int v10), none, none] [] s11 := by
        intro h
        rw [hdj12] at h
        refine b_Rd_fact_41  (k1 := fun e40 => ?_) (k2 := fun e40 => ?_)
        · replace h := if_t e40 h
          exact hj13  h
        · replace h := if_f e40 h
          refine b_Rd_fact_47 (l_a0 := l_a0) (k1 := t_Rd_fail l_a0 rfl ?_)
          exact b_Rd_fact_53  (k1 := lfV h k)
      clear hdj12
      refine b_Rd_fact_30  (k1 := fun e41 => ?_) (k2 := fun e41 => ?_)
      · replace h := if_f e41 h
        exact hj12  h
      · replace h := if_t e41 h
        refine b_Rd_fact_36  (k1 := fun e42 => ?_) (k2 := fun e42 => ?_)
        · replace h := if_t e42 h
          exact hj13  h
        · replace h := if_f e42 h
          exact hj12  h
    clear hdj9
    obtain ⟨j7, hdj7, h⟩ := jn_some h
    have hj7 : ∀ (s8 : AS), j7 s8 = some s' → V κ (M_Rd_fact 0) (RV F) 29 [some (.ref a0), some (.int x1), some (.int v1), some (.int v3), none, none, none] [] s8 := by
      intro s8 h
      rw [hdj7] at h
      refine b_Rd_fact_29  (k1 := ?_)
      exact hj9 _ _  h
    clear hdj7
    refine b_Rd_fact_11  (k1 := fun e43 => ?_) (k2 := fun e43 => ?_)
    · replace h := if_f e43 h
      exact hj7 _  h
    · replace h := if_t e43 h
      obtain ⟨v5, s6, h44, h⟩ := bnd2_some h
      refine b_Rd_fact_16 (l_a0 := l_a0) (k1 := t_Rd_takesWord l_a0 (by decide) h44 ?_)
      refine b_Rd_fact_22  (k1 := fun e45 => ?_) (k2 := fun e45 => ?_)
      · replace h := if_t e45 h
        exact hj7 _  h
      · replace h := if_f e45 h
        refine b_Rd_fact_25  (k1 := ?_)
        exact hj9 _ _  h
  | succ dk ih =>
    intro κ F iw hiw a0 x1 st s' l_a0 h k
    rw [f_Rd_fact] at h
    refine e_Rd_fact ?_
    obtain ⟨v1, s2, h46, h⟩ := bnd2_some h
    refine b_Rd_fact_0 (l_a0 := l_a0) (k1 := t_Rd_nextPlace l_a0 h46 ?_)
    obtain ⟨v3, s4, h47, h⟩ := bnd2_some h
    refine b_Rd_fact_4 (l_a0 := l_a0) (k1 := t_Rd_takesByte l_a0 h47 ?_)
    obtain ⟨j9, hdj9, h⟩ := jn_some h
    have hj9 : ∀ (v10 : Int32) (s11 : AS), j9 v10 s11 = some s' → V κ (M_Rd_fact (dk + 1)) (RV F) 30 [some (.ref a0), some (.int x1), some (.int v1), some (.int v3), none, none, none] [.int v10] s11 := by
      intro v10 s11 h
      rw [hdj9] at h
      obtain ⟨j13, hdj13, h⟩ := jn_some h
      have hj13 : j13 = some s' → V κ (M_Rd_fact (dk + 1)) (RV F) 56 [some (.ref a0), some (.int x1), none, some (.int v3), some (.int v10), none, none] [] s11 := by
        intro h
        rw [hdj13] at h
        refine b_Rd_fact_56  (k1 := fun e48 => ?_) (k2 := fun e48 => ?_)
        · replace h := if_t e48 h
          obtain ⟨j26, hdj26, h⟩ := jn_some h
          have hj26 : ∀ (s27 : AS), j26 s27 = some s' → V κ (M_Rd_fact (dk + 1)) (RV F) 149 [none, none, none, none, none, none, none] [] s27 := by
            intro s27 h
            rw [hdj26] at h
            exact b_Rd_fact_149  (k1 := lfV h k)
          clear hdj26
          refine b_Rd_fact_81  (k1 := fun e49 => ?_) (k2 := fun e49 => ?_)
          · replace h := if_t e49 h
            obtain ⟨s14, h50, h⟩ := bnd_some h
            refine b_Rd_fact_113 (l_a0 := l_a0) (k1 := t_Rd_sum hiw l_a0 h50 ?_)
            obtain ⟨v15, s16, h51, h⟩ := bnd2_some h
            refine b_Rd_fact_117 (l_a0 := l_a0) (k1 := t_Rd_nextPlace l_a0 h51 ?_)
            obtain ⟨v17, s18, h52, h⟩ := bnd2_some h
            refine b_Rd_fact_121 (l_a0 := l_a0) (k1 := t_Rd_factSign l_a0 h52 ?_)
            refine b_Rd_fact_127 (l_a0 := l_a0) (k1 := t_Rd_countValue l_a0 rfl ?_)
            obtain ⟨s19, h53, h⟩ := bnd_some h
            refine b_Rd_fact_135 (l_a0 := l_a0) (k1 := t_Rd_sum hiw l_a0 h53 ?_)
            obtain ⟨c21, h20, h⟩ := bnd_some h
            obtain ⟨l22, h⟩ := grd_some h
            refine b_Rd_fact_139 (l_a0 := l_a0) (g1 := h20) (l_r2 := l22) (k2 := t_Cd_add l22 rfl ?_)
            exact hj26 _  h
          · replace h := if_f e49 h
            obtain ⟨s23, h54, h⟩ := bnd_some h
            refine b_Rd_fact_85 (l_a0 := l_a0) (k1 := t_Rd_test (fun q h k => ih hiw q h k) hiw l_a0 h54 ?_)
            obtain ⟨v24, s25, h55, h⟩ := bnd2_some h
            refine b_Rd_fact_92 (l_a0 := l_a0) (k1 := t_Rd_takesByte l_a0 h55 ?_)
            refine b_Rd_fact_98  (k1 := fun e56 => ?_) (k2 := fun e56 => ?_)
            · replace h := if_f e56 h
              exact hj26 _  h
            · replace h := if_t e56 h
              refine b_Rd_fact_101 (l_a0 := l_a0) (k1 := t_Rd_fail l_a0 rfl ?_)
              exact b_Rd_fact_110  (k1 := lfV h k)
        · replace h := if_f e48 h
          obtain ⟨s28, h57, h⟩ := bnd_some h
          refine b_Rd_fact_61 (l_a0 := l_a0) (k1 := ih hiw l_a0 h57 ?_)
          obtain ⟨c30, h29, h⟩ := bnd_some h
          obtain ⟨l31, h⟩ := grd_some h
          refine b_Rd_fact_68 (l_a0 := l_a0) (g1 := h29) (l_r1 := l31) (k2 := t_Cd_add l31 rfl ?_)
          exact b_Rd_fact_78  (k1 := lfV h k)
      clear hdj13
      obtain ⟨j12, hdj12, h⟩ := jn_some h
      have hj12 : j12 = some s' → V κ (M_Rd_fact (dk + 1)) (RV F) 41 [some (.ref a0), some (.int x1), some (.int v1), some (.int v3), some (.int v10), none, none] [] s11 := by
        intro h
        rw [hdj12] at h
        refine b_Rd_fact_41  (k1 := fun e58 => ?_) (k2 := fun e58 => ?_)
        · replace h := if_t e58 h
          exact hj13  h
        · replace h := if_f e58 h
          refine b_Rd_fact_47 (l_a0 := l_a0) (k1 := t_Rd_fail l_a0 rfl ?_)
          exact b_Rd_fact_53  (k1 := lfV h k)
      clear hdj12
      refine b_Rd_fact_30  (k1 := fun e59 => ?_) (k2 := fun e59 => ?_)
      · replace h := if_f e59 h
        exact hj12  h
      · replace h := if_t e59 h
        refine b_Rd_fact_36  (k1 := fun e60 => ?_) (k2 := fun e60 => ?_)
        · replace h := if_t e60 h
          exact hj13  h
        · replace h := if_f e60 h
          exact hj12  h
    clear hdj9
    obtain ⟨j7, hdj7, h⟩ := jn_some h
    have hj7 : ∀ (s8 : AS), j7 s8 = some s' → V κ (M_Rd_fact (dk + 1)) (RV F) 29 [some (.ref a0), some (.int x1), some (.int v1), some (.int v3), none, none, none] [] s8 := by
      intro s8 h
      rw [hdj7] at h
      refine b_Rd_fact_29  (k1 := ?_)
      exact hj9 _ _  h
    clear hdj7
    refine b_Rd_fact_11  (k1 := fun e61 => ?_) (k2 := fun e61 => ?_)
    · replace h := if_f e61 h
      exact hj7 _  h
    · replace h := if_t e61 h
      obtain ⟨v5, s6, h62, h⟩ := bnd2_some h
      refine b_Rd_fact_16 (l_a0 := l_a0) (k1 := t_Rd_takesWord l_a0 (by decide) h62 ?_)
      refine b_Rd_fact_22  (k1 := fun e63 => ?_) (k2 := fun e63 => ?_)
      · replace h := if_t e63 h
        exact hj7 _  h
      · replace h := if_f e63 h
        refine b_Rd_fact_25  (k1 := ?_)
        exact hj9 _ _  h
noncomputable def L_Rd_readLaw_31 (κ : Ko) (k_159 : Nat → AS → Option (Int32 × AS)) : Nat → Nat → Nat → Int32 → Int32 → Int32 → AS → Option (Int32 × AS)
  | 0, _, _, _, _, _, _ => none
  | d + 1, a0, a1, x3, x4, x5, st => if 12 < x5 then k_159 a0 st else if x4 = 0 then k_159 a0 st else bnd2 (f_Rd_nextPlace κ a0 st) (fun v2 s3 => bnd2 (f_Rd_clauseWord κ a0 1 x5 s3) (fun v4 s5 => jn (fun (v26 : Int32) (s27 : AS) => bnd2 (f_Rd_takesByte κ a0 (59 : Int32) s27) (fun v28 s29 => L_Rd_readLaw_31 κ k_159 d a0 a1 v26 v28 (x5 + 1) s29)) fun j25 => if v4 = 2 then jn (fun (s22 : AS) => bnd2 (f_Rd_number κ a0 (1 : Int32) (99 : Int32) s22) (fun v23 s24 => j25 (1 : Int32) (f_Lw_softFrom κ a1 v23 s24))) fun j21 => if x3 = 0 then j21 s5 else j21 (f_Rd_fail κ a0 v2 (4 : Int32) s5) else bnd (gr s5 a0 5) (fun c7 => grd (ly κ c7 = (0, 4)) (bnd (f_Rd_sum κ 0 a0 s5) (fun s9 => bnd (gr s9 a0 5) (fun c11 => grd (ly κ c11 = (0, 4)) (bnd2 (f_Rd_takesWord κ a0 2 s9) (fun v13 s14 => jn (fun (s17 : AS) => bnd (gr s17 a0 5) (fun c19 => grd (ly κ c19 = (0, 4)) (j25 x3 (f_Lw_add κ a1 v4 (f_Cd_stepCount κ c7 s5) (f_Cd_stepCount κ c11 s9) (f_Cd_stepCount κ c19 s17) s17)))) fun j16 => if v13 = 0 then j16 s14 else bnd (g_Rd_test κ 0 (f_Rd_fact κ 0 10) a0 (0 : Int32) s14) (fun s15 => j16 s15)))))))))
noncomputable def f_Rd_readLaw (κ : Ko) (a0 : Nat) (a1 : Nat) (x2 : Int32) (st : AS) : Option (Int32 × AS) := grd (ly κ (f_Lw_program κ a1 (f_Lw_clear κ a1 (f_Rd_open κ a0 x2 st))) = (0, 4)) (L_Rd_readLaw_31 κ (fun (v42 : Nat) (s44 : AS) => bnd2 (f_Rd_close κ v42 s44) (fun v45 s46 => some (v45, s46))) FU a0 a1 (0 : Int32) (1 : Int32) (0 : Int32) (ur (ur (f_Lw_clear κ a1 (f_Rd_open κ a0 x2 st)) a0 5 (some (f_Lw_program κ a1 (f_Lw_clear κ a1 (f_Rd_open κ a0 x2 st))))) a0 6 (some (kK (kt κ) 0))))
theorem l_Rd_readLaw_31 {κ : Ko} {F : Int32 → AS → Prop} {v : Int32} {s' : AS} (k : F v s') {k_159 : Nat → AS → Option (Int32 × AS)} (hk_159 : ∀ (a0 : Nat) (st : AS), ly κ a0 = (6, 7) → k_159 a0 st = some (v, s') → V κ M_Rd_readLaw (RI F) 159 [some (.ref a0), none, none, none, none, none, none, none, none, none] [] st) : ∀ (d : Nat) (a0 : Nat) (a1 : Nat) (x3 : Int32) (x4 : Int32) (x5 : Int32) (st : AS), ly κ a0 = (6, 7) → ly κ a1 = (3, 7) → L_Rd_readLaw_31 κ k_159 d a0 a1 x3 x4 x5 st = some (v, s') → V κ M_Rd_readLaw (RI F) 31 [some (.ref a0), some (.ref a1), none, some (.int x3), some (.int x4), some (.int x5), none, none, none, none] [] st := by
  intro d
  induction d with
  | zero =>
    intro a0 a1 x3 x4 x5 st l_a0 l_a1 h
    exact nn_some h
  | succ d ih =>
    intro a0 a1 x3 x4 x5 st l_a0 l_a1 h
    rw [L_Rd_readLaw_31] at h
    refine b_Rd_readLaw_31  (k1 := fun e30 => ?_) (k2 := fun e30 => ?_)
    · replace h := if_t e30 h
      exact hk_159 _ _ l_a0 h
    · replace h := if_f e30 h
      refine b_Rd_readLaw_38  (k1 := fun e31 => ?_) (k2 := fun e31 => ?_)
      · replace h := if_t e31 h
        exact hk_159 _ _ l_a0 h
      · replace h := if_f e31 h
        obtain ⟨v2, s3, h32, h⟩ := bnd2_some h
        refine b_Rd_readLaw_43 (l_a0 := l_a0) (k1 := t_Rd_nextPlace l_a0 h32 ?_)
        obtain ⟨v4, s5, h33, h⟩ := bnd2_some h
        refine b_Rd_readLaw_47 (l_a0 := l_a0) (k1 := t_Rd_clauseWord l_a0 (by decide) h33 ?_)
        obtain ⟨j25, hdj25, h⟩ := jn_some h
        have hj25 : ∀ (v26 : Int32) (s27 : AS), j25 v26 s27 = some (v, s') → V κ M_Rd_readLaw (RI F) 145 [some (.ref a0), some (.ref a1), none, some (.int v26), none, some (.int x5), none, none, none, none] [] s27 := by
          intro v26 s27 h
          rw [hdj25] at h
          obtain ⟨v28, s29, h34, h⟩ := bnd2_some h
          refine b_Rd_readLaw_145 (l_a0 := l_a0) (k1 := t_Rd_takesByte l_a0 h34 ?_)
          refine b_Rd_readLaw_151  (k1 := ?_)
          exact ih _ _ _ _ _ _ l_a0 l_a1 h
        clear hdj25
        refine b_Rd_readLaw_57  (k1 := fun e35 => ?_) (k2 := fun e35 => ?_)
        · replace h := if_f e35 h
          obtain ⟨c7, h6, h⟩ := bnd_some h
          obtain ⟨l8, h⟩ := grd_some h
          refine b_Rd_readLaw_92 (l_a0 := l_a0) (g1 := h6) (l_r5 := l8) (k2 := t_Cd_stepCount l8 rfl ?_)
          obtain ⟨s9, h36, h⟩ := bnd_some h
          refine b_Rd_readLaw_99 (l_a0 := l_a0) (k1 := t_Rd_sum (by decide) l_a0 h36 ?_)
          obtain ⟨c11, h10, h⟩ := bnd_some h
          obtain ⟨l12, h⟩ := grd_some h
          refine b_Rd_readLaw_105 (l_a0 := l_a0) (g1 := h10) (l_r6 := l12) (k2 := t_Cd_stepCount l12 rfl ?_)
          obtain ⟨v13, s14, h37, h⟩ := bnd2_some h
          refine b_Rd_readLaw_112 (l_a0 := l_a0) (k1 := t_Rd_takesWord l_a0 (by decide) h37 ?_)
          obtain ⟨j16, hdj16, h⟩ := jn_some h
          have hj16 : ∀ (s17 : AS), j16 s17 = some (v, s') → V κ M_Rd_readLaw (RI F) 128 [some (.ref a0), some (.ref a1), none, some (.int x3), none, some (.int x5), none, some (.int v4), some (.int (f_Cd_stepCount κ c7 s5)), some (.int (f_Cd_stepCount κ c11 s9))] [] s17 := by
            intro s17 h
            rw [hdj16] at h
            obtain ⟨c19, h18, h⟩ := bnd_some h
            obtain ⟨l20, h⟩ := grd_some h
            refine b_Rd_readLaw_128 (l_a0 := l_a0) (g1 := h18) (l_r7 := l20) (k2 := t_Cd_stepCount l20 rfl ?_)
            refine b_Rd_readLaw_142 (l_c0 := l_a1) (k1 := t_Lw_add l_a1 rfl ?_)
            exact hj25 _ _  h
          clear hdj16
          refine b_Rd_readLaw_120  (k1 := fun e38 => ?_) (k2 := fun e38 => ?_)
          · replace h := if_t e38 h
            exact hj16 _  h
          · replace h := if_f e38 h
            obtain ⟨s15, h39, h⟩ := bnd_some h
            refine b_Rd_readLaw_123 (l_a0 := l_a0) (k1 := t_Rd_test (fun q h k => t_Rd_fact 10 (by decide) q h k) (by decide) l_a0 h39 ?_)
            exact hj16 _  h
        · replace h := if_t e35 h
          obtain ⟨j21, hdj21, h⟩ := jn_some h
          have hj21 : ∀ (s22 : AS), j21 s22 = some (v, s') → V κ M_Rd_readLaw (RI F) 76 [some (.ref a0), some (.ref a1), none, none, none, some (.int x5), none, none, none, none] [] s22 := by
            intro s22 h
            rw [hdj21] at h
            obtain ⟨v23, s24, h40, h⟩ := bnd2_some h
            refine b_Rd_readLaw_76 (l_a0 := l_a0) (k1 := t_Rd_number l_a0 h40 ?_)
            refine b_Rd_readLaw_86 (l_c0 := l_a1) (k1 := t_Lw_softFrom l_a1 rfl ?_)
            refine b_Rd_readLaw_89  (k1 := ?_)
            exact hj25 _ _  h
          clear hdj21
          refine b_Rd_readLaw_65  (k1 := fun e41 => ?_) (k2 := fun e41 => ?_)
          · replace h := if_t e41 h
            exact hj21 _  h
          · replace h := if_f e41 h
            refine b_Rd_readLaw_69 (l_a0 := l_a0) (k1 := t_Rd_fail l_a0 rfl ?_)
            exact hj21 _  h
theorem t_Rd_readLaw {κ : Ko} {F : Int32 → AS → Prop} {a0 : Nat} {a1 : Nat} {x2 : Int32} {st : AS} {v : Int32} {s' : AS} (l_a0 : ly κ a0 = (6, 7)) (l_a1 : ly κ a1 = (3, 7)) (h : f_Rd_readLaw κ a0 a1 x2 st = some (v, s')) (k : F v s') : C κ M_Rd_readLaw [.ref a0, .ref a1, .int x2] st (RI F) := by
  unfold f_Rd_readLaw at h
  refine e_Rd_readLaw ?_
  refine b_Rd_readLaw_0 (l_a0 := l_a0) (k1 := t_Rd_open l_a0 rfl ?_)
  refine b_Rd_readLaw_5 (l_a1 := l_a1) (k1 := t_Lw_clear l_a1 rfl ?_)
  obtain ⟨l1, h⟩ := grd_some h
  refine b_Rd_readLaw_9 (l_a1 := l_a1) (k1 := t_Lw_program l_a1 rfl ?_)
  refine b_Rd_readLaw_14 (l_c0 := l_a0) (l_a0 := l_a0) (k1 := ?_)
  refine l_Rd_readLaw_31 k ?_ FU _ _ _ _ _ _ l_a0 l_a1 h
  · intro v42 s44 l43 h
    obtain ⟨v45, s46, h47, h⟩ := bnd2_some h
    refine b_Rd_readLaw_159 (l_a0 := l43) (k1 := t_Rd_close l43 h47 ?_)
    exact b_Rd_readLaw_163  (k1 := lfI h k)
noncomputable def f_Dg_clear (κ : Ko) (a0 : Nat) (st : AS) : AS := (ui st a0 4 0)
theorem t_Dg_clear {κ : Ko} {F : AS → Prop} {a0 : Nat} {st : AS} {s' : AS} (l_a0 : ly κ a0 = (2, 5)) (h : f_Dg_clear κ a0 st = s') (k : F s') : C κ M_Dg_clear [.ref a0] st (RV F) := by
  unfold f_Dg_clear at h
  refine e_Dg_clear ?_
  exact b_Dg_clear_0 (l_a0 := l_a0) (k1 := lfVT h k)
noncomputable def f_Dg_add (κ : Ko) (a0 : Nat) (x1 : Int32) (x2 : Int32) (x3 : Int32) (x4 : Int32) (st : AS) : AS := (ui (gput (gput (gput (gput st (a0 + 1) 12 (gi st a0 4) x1) (a0 + 2) 12 (gi (gput st (a0 + 1) 12 (gi st a0 4) x1) a0 4) x2) (a0 + 3) 12 (gi (gput (gput st (a0 + 1) 12 (gi st a0 4) x1) (a0 + 2) 12 (gi (gput st (a0 + 1) 12 (gi st a0 4) x1) a0 4) x2) a0 4) x3) (a0 + 4) 12 (gi (gput (gput (gput st (a0 + 1) 12 (gi st a0 4) x1) (a0 + 2) 12 (gi (gput st (a0 + 1) 12 (gi st a0 4) x1) a0 4) x2) (a0 + 3) 12 (gi (gput (gput st (a0 + 1) 12 (gi st a0 4) x1) (a0 + 2) 12 (gi (gput st (a0 + 1) 12 (gi st a0 4) x1) a0 4) x2) a0 4) x3) a0 4) x4) a0 4 ((gi (gput (gput (gput (gput st (a0 + 1) 12 (gi st a0 4) x1) (a0 + 2) 12 (gi (gput st (a0 + 1) 12 (gi st a0 4) x1) a0 4) x2) (a0 + 3) 12 (gi (gput (gput st (a0 + 1) 12 (gi st a0 4) x1) (a0 + 2) 12 (gi (gput st (a0 + 1) 12 (gi st a0 4) x1) a0 4) x2) a0 4) x3) (a0 + 4) 12 (gi (gput (gput (gput st (a0 + 1) 12 (gi st a0 4) x1) (a0 + 2) 12 (gi (gput st (a0 + 1) 12 (gi st a0 4) x1) a0 4) x2) (a0 + 3) 12 (gi (gput (gput st (a0 + 1) 12 (gi st a0 4) x1) (a0 + 2) 12 (gi (gput st (a0 + 1) 12 (gi st a0 4) x1) a0 4) x2) a0 4) x3) a0 4) x4) a0 4) + 1))
theorem t_Dg_add {κ : Ko} {F : AS → Prop} {a0 : Nat} {x1 : Int32} {x2 : Int32} {x3 : Int32} {x4 : Int32} {st : AS} {s' : AS} (l_a0 : ly κ a0 = (2, 5)) (h : f_Dg_add κ a0 x1 x2 x3 x4 st = s') (k : F s') : C κ M_Dg_add [.ref a0, .int x1, .int x2, .int x3, .int x4] st (RV F) := by
  unfold f_Dg_add at h
  refine e_Dg_add ?_
  refine b_Dg_add_0 (l_a0 := l_a0) (k1 := t_X_put (co2 1 50 12 rfl l_a0) rfl ?_)
  refine b_Dg_add_12 (l_a0 := l_a0) (k1 := t_X_put (co2 2 50 12 rfl l_a0) rfl ?_)
  refine b_Dg_add_24 (l_a0 := l_a0) (k1 := t_X_put (co2 3 50 12 rfl l_a0) rfl ?_)
  refine b_Dg_add_36 (l_a0 := l_a0) (k1 := t_X_put (co2 4 50 12 rfl l_a0) rfl ?_)
  exact b_Dg_add_49 (l_a0 := l_a0) (k1 := lfVT h k)
noncomputable def L_Rd_readDoing_14 (κ : Ko) (k_137 : Nat → AS → Option (Int32 × AS)) : Nat → Nat → Nat → Int32 → Int32 → AS → Option (Int32 × AS)
  | 0, _, _, _, _, _ => none
  | d + 1, a0, a1, x3, x4, st => if 12 < x4 then k_137 a0 st else if x3 = 0 then k_137 a0 st else bnd2 (f_Rd_clauseWord κ a0 6 x4 st) (fun v1 s2 => jn (fun (s17 : AS) => bnd2 (f_Rd_takesByte κ a0 (59 : Int32) s17) (fun v18 s19 => L_Rd_readDoing_14 κ k_137 d a0 a1 v18 (x4 + 1) s19)) fun j16 => if v1 = 0 then bnd2 (f_Rd_number κ a0 (1 : Int32) (99 : Int32) s2) (fun v7 s8 => bnd2 (f_Rd_takesWord κ a0 7 s8) (fun v9 s10 => jn (fun (v14 : Int32) (s15 : AS) => j16 (f_Dg_add κ a1 v1 v7 v14 (0 : Int32) s15)) fun j13 => if v9 = 0 then j13 (1 : Int32) s10 else bnd2 (f_Rd_number κ a0 (1 : Int32) (60 : Int32) s10) (fun v11 s12 => j13 v11 s12))) else if v1 = 1 then bnd2 (f_Rd_neededWord κ a0 8 s2) (fun v3 s4 => bnd2 (f_Rd_number κ a0 (1 : Int32) (199 : Int32) s4) (fun v5 s6 => j16 (f_Dg_add κ a1 v1 v5 (1 : Int32) v3 s6))) else j16 (f_Dg_add κ a1 v1 (0 : Int32) (1 : Int32) (0 : Int32) s2))
noncomputable def f_Rd_readDoing (κ : Ko) (a0 : Nat) (a1 : Nat) (x2 : Int32) (st : AS) : Option (Int32 × AS) := L_Rd_readDoing_14 κ (fun (v32 : Nat) (s34 : AS) => bnd2 (f_Rd_close κ v32 s34) (fun v35 s36 => some (v35, s36))) FU a0 a1 (1 : Int32) (0 : Int32) (f_Dg_clear κ a1 (f_Rd_open κ a0 x2 st))
theorem l_Rd_readDoing_14 {κ : Ko} {F : Int32 → AS → Prop} {v : Int32} {s' : AS} (k : F v s') {k_137 : Nat → AS → Option (Int32 × AS)} (hk_137 : ∀ (a0 : Nat) (st : AS), ly κ a0 = (6, 7) → k_137 a0 st = some (v, s') → V κ M_Rd_readDoing (RI F) 137 [some (.ref a0), none, none, none, none, none, none] [] st) : ∀ (d : Nat) (a0 : Nat) (a1 : Nat) (x3 : Int32) (x4 : Int32) (st : AS), ly κ a0 = (6, 7) → ly κ a1 = (2, 5) → L_Rd_readDoing_14 κ k_137 d a0 a1 x3 x4 st = some (v, s') → V κ M_Rd_readDoing (RI F) 14 [some (.ref a0), some (.ref a1), none, some (.int x3), some (.int x4), none, none] [] st := by
  intro d
  induction d with
  | zero =>
    intro a0 a1 x3 x4 st l_a0 l_a1 h
    exact nn_some h
  | succ d ih =>
    intro a0 a1 x3 x4 st l_a0 l_a1 h
    rw [L_Rd_readDoing_14] at h
    refine b_Rd_readDoing_14  (k1 := fun e20 => ?_) (k2 := fun e20 => ?_)
    · replace h := if_t e20 h
      exact hk_137 _ _ l_a0 h
    · replace h := if_f e20 h
      refine b_Rd_readDoing_21  (k1 := fun e21 => ?_) (k2 := fun e21 => ?_)
      · replace h := if_t e21 h
        exact hk_137 _ _ l_a0 h
      · replace h := if_f e21 h
        obtain ⟨v1, s2, h22, h⟩ := bnd2_some h
        refine b_Rd_readDoing_25 (l_a0 := l_a0) (k1 := t_Rd_clauseWord l_a0 (by decide) h22 ?_)
        obtain ⟨j16, hdj16, h⟩ := jn_some h
        have hj16 : ∀ (s17 : AS), j16 s17 = some (v, s') → V κ M_Rd_readDoing (RI F) 124 [some (.ref a0), some (.ref a1), none, none, some (.int x4), none, none] [] s17 := by
          intro s17 h
          rw [hdj16] at h
          obtain ⟨v18, s19, h23, h⟩ := bnd2_some h
          refine b_Rd_readDoing_124 (l_a0 := l_a0) (k1 := t_Rd_takesByte l_a0 h23 ?_)
          refine b_Rd_readDoing_130  (k1 := ?_)
          exact ih _ _ _ _ _ l_a0 l_a1 h
        clear hdj16
        refine b_Rd_readDoing_33  (k1 := fun e24 => ?_) (k2 := fun e24 => ?_)
        · replace h := if_f e24 h
          refine b_Rd_readDoing_81  (k1 := fun e25 => ?_) (k2 := fun e25 => ?_)
          · replace h := if_f e25 h
            refine b_Rd_readDoing_115 (l_a1 := l_a1) (k1 := t_Dg_add l_a1 rfl ?_)
            exact hj16 _  h
          · replace h := if_t e25 h
            obtain ⟨v3, s4, h26, h⟩ := bnd2_some h
            refine b_Rd_readDoing_87 (l_a0 := l_a0) (k1 := t_Rd_neededWord l_a0 (by decide) h26 ?_)
            obtain ⟨v5, s6, h27, h⟩ := bnd2_some h
            refine b_Rd_readDoing_93 (l_a0 := l_a0) (k1 := t_Rd_number l_a0 h27 ?_)
            refine b_Rd_readDoing_106 (l_c0 := l_a1) (k1 := t_Dg_add l_a1 rfl ?_)
            refine b_Rd_readDoing_112  (k1 := ?_)
            exact hj16 _  h
        · replace h := if_t e24 h
          obtain ⟨v7, s8, h28, h⟩ := bnd2_some h
          refine b_Rd_readDoing_40 (l_a0 := l_a0) (k1 := t_Rd_number l_a0 h28 ?_)
          obtain ⟨v9, s10, h29, h⟩ := bnd2_some h
          refine b_Rd_readDoing_47 (l_a0 := l_a0) (k1 := t_Rd_takesWord l_a0 (by decide) h29 ?_)
          obtain ⟨j13, hdj13, h⟩ := jn_some h
          have hj13 : ∀ (v14 : Int32) (s15 : AS), j13 v14 s15 = some (v, s') → V κ M_Rd_readDoing (RI F) 74 [some (.ref a0), some (.ref a1), none, none, some (.int x4), none, none] [.int v14, .int v7, .int v1, .ref a1] s15 := by
            intro v14 s15 h
            rw [hdj13] at h
            refine b_Rd_readDoing_74 (l_c0 := l_a1) (k1 := t_Dg_add l_a1 rfl ?_)
            refine b_Rd_readDoing_78  (k1 := ?_)
            exact hj16 _  h
          clear hdj13
          refine b_Rd_readDoing_60  (k1 := fun e30 => ?_) (k2 := fun e30 => ?_)
          · replace h := if_t e30 h
            refine b_Rd_readDoing_73  (k1 := ?_)
            exact hj13 _ _  h
          · replace h := if_f e30 h
            obtain ⟨v11, s12, h31, h⟩ := bnd2_some h
            refine b_Rd_readDoing_63 (l_a0 := l_a0) (k1 := t_Rd_number l_a0 h31 ?_)
            refine b_Rd_readDoing_70  (k1 := ?_)
            exact hj13 _ _  h
theorem t_Rd_readDoing {κ : Ko} {F : Int32 → AS → Prop} {a0 : Nat} {a1 : Nat} {x2 : Int32} {st : AS} {v : Int32} {s' : AS} (l_a0 : ly κ a0 = (6, 7)) (l_a1 : ly κ a1 = (2, 5)) (h : f_Rd_readDoing κ a0 a1 x2 st = some (v, s')) (k : F v s') : C κ M_Rd_readDoing [.ref a0, .ref a1, .int x2] st (RI F) := by
  unfold f_Rd_readDoing at h
  refine e_Rd_readDoing ?_
  refine b_Rd_readDoing_0 (l_a0 := l_a0) (k1 := t_Rd_open l_a0 rfl ?_)
  refine b_Rd_readDoing_5 (l_a1 := l_a1) (k1 := t_Dg_clear l_a1 rfl ?_)
  refine b_Rd_readDoing_9  (k1 := ?_)
  refine l_Rd_readDoing_14 k ?_ FU _ _ _ _ _ l_a0 l_a1 h
  · intro v32 s34 l33 h
    obtain ⟨v35, s36, h37, h⟩ := bnd2_some h
    refine b_Rd_readDoing_137 (l_a0 := l33) (k1 := t_Rd_close l33 h37 ?_)
    exact b_Rd_readDoing_141  (k1 := lfI h k)
noncomputable def f_Ru_clear (κ : Ko) (a0 : Nat) (st : AS) : AS := (ui (f_Cd_clear κ (a0 + 1) st) a0 4 0)
theorem t_Ru_clear {κ : Ko} {F : AS → Prop} {a0 : Nat} {st : AS} {s' : AS} (l_a0 : ly κ a0 = (7, 5)) (h : f_Ru_clear κ a0 st = s') (k : F s') : C κ M_Ru_clear [.ref a0] st (RV F) := by
  unfold f_Ru_clear at h
  refine e_Ru_clear ?_
  refine b_Ru_clear_0 (l_a0 := l_a0) (k1 := t_Cd_clear (co7 1 0 4 rfl l_a0) rfl ?_)
  exact b_Ru_clear_7 (l_a0 := l_a0) (k1 := lfVT h k)
noncomputable def f_Ru_program (κ : Ko) (a0 : Nat) (st : AS) : Nat := (a0 + 1)
theorem t_Ru_program {κ : Ko} {F : Value → AS → Prop} {a0 : Nat} {st : AS} {v : Nat} (l_a0 : ly κ a0 = (7, 5)) (h : f_Ru_program κ a0 st = v) (k : F (.ref v) st) : C κ M_Ru_program [.ref a0] st (RR F) := by
  unfold f_Ru_program at h
  refine e_Ru_program ?_
  exact b_Ru_program_0 (l_a0 := l_a0) (k1 := lfRPT h k)
noncomputable def f_Ru_add (κ : Ko) (a0 : Nat) (x1 : Int32) (x2 : Int32) (x3 : Int32) (st : AS) : AS := (ui (gput (gput (gput st (a0 + 5) 12 (gi st a0 4) x1) (a0 + 6) 12 (gi (gput st (a0 + 5) 12 (gi st a0 4) x1) a0 4) x2) (a0 + 7) 12 (gi (gput (gput st (a0 + 5) 12 (gi st a0 4) x1) (a0 + 6) 12 (gi (gput st (a0 + 5) 12 (gi st a0 4) x1) a0 4) x2) a0 4) x3) a0 4 ((gi (gput (gput (gput st (a0 + 5) 12 (gi st a0 4) x1) (a0 + 6) 12 (gi (gput st (a0 + 5) 12 (gi st a0 4) x1) a0 4) x2) (a0 + 7) 12 (gi (gput (gput st (a0 + 5) 12 (gi st a0 4) x1) (a0 + 6) 12 (gi (gput st (a0 + 5) 12 (gi st a0 4) x1) a0 4) x2) a0 4) x3) a0 4) + 1))
theorem t_Ru_add {κ : Ko} {F : AS → Prop} {a0 : Nat} {x1 : Int32} {x2 : Int32} {x3 : Int32} {st : AS} {s' : AS} (l_a0 : ly κ a0 = (7, 5)) (h : f_Ru_add κ a0 x1 x2 x3 st = s') (k : F s') : C κ M_Ru_add [.ref a0, .int x1, .int x2, .int x3] st (RV F) := by
  unfold f_Ru_add at h
  refine e_Ru_add ?_
  refine b_Ru_add_0 (l_a0 := l_a0) (k1 := t_X_put (co7 5 50 12 rfl l_a0) rfl ?_)
  refine b_Ru_add_12 (l_a0 := l_a0) (k1 := t_X_put (co7 6 50 12 rfl l_a0) rfl ?_)
  refine b_Ru_add_24 (l_a0 := l_a0) (k1 := t_X_put (co7 7 50 12 rfl l_a0) rfl ?_)
  exact b_Ru_add_36 (l_a0 := l_a0) (k1 := lfVT h k)
noncomputable def L_Rd_readRule_28 (κ : Ko) (k_91 : Nat → AS → Option (Int32 × AS)) : Nat → Nat → Nat → Int32 → Int32 → AS → Option (Int32 × AS)
  | 0, _, _, _, _, _ => none
  | d + 1, a0, a1, x3, x4, st => if 12 < x4 then k_91 a0 st else if x3 = 0 then k_91 a0 st else bnd2 (f_Rd_clauseWord κ a0 10 x4 st) (fun v2 s3 => bnd (gr s3 a0 5) (fun c5 => grd (ly κ c5 = (0, 4)) (bnd (g_Rd_test κ 9 (f_Rd_fact κ 9 10) a0 (0 : Int32) s3) (fun s7 => bnd (gr s7 a0 5) (fun c9 => grd (ly κ c9 = (0, 4)) (bnd2 (f_Rd_takesByte κ a0 (59 : Int32) (f_Ru_add κ a1 v2 (f_Cd_stepCount κ c5 s3) (f_Cd_stepCount κ c9 s7) s7)) (fun v11 s12 => L_Rd_readRule_28 κ k_91 d a0 a1 v11 (x4 + 1) s12)))))))
noncomputable def f_Rd_readRule (κ : Ko) (a0 : Nat) (a1 : Nat) (x2 : Int32) (st : AS) : Option (Int32 × AS) := grd (ly κ (f_Ru_program κ a1 (f_Ru_clear κ a1 (f_Rd_open κ a0 x2 st))) = (0, 4)) (L_Rd_readRule_28 κ (fun (v18 : Nat) (s20 : AS) => bnd2 (f_Rd_close κ v18 s20) (fun v21 s22 => some (v21, s22))) FU a0 a1 (1 : Int32) (0 : Int32) (ur (ur (f_Ru_clear κ a1 (f_Rd_open κ a0 x2 st)) a0 5 (some (f_Ru_program κ a1 (f_Ru_clear κ a1 (f_Rd_open κ a0 x2 st))))) a0 6 (some (kK (kt κ) 9))))
theorem l_Rd_readRule_28 {κ : Ko} {F : Int32 → AS → Prop} {v : Int32} {s' : AS} (k : F v s') {k_91 : Nat → AS → Option (Int32 × AS)} (hk_91 : ∀ (a0 : Nat) (st : AS), ly κ a0 = (6, 7) → k_91 a0 st = some (v, s') → V κ M_Rd_readRule (RI F) 91 [some (.ref a0), none, none, none, none, none, none] [] st) : ∀ (d : Nat) (a0 : Nat) (a1 : Nat) (x3 : Int32) (x4 : Int32) (st : AS), ly κ a0 = (6, 7) → ly κ a1 = (7, 5) → L_Rd_readRule_28 κ k_91 d a0 a1 x3 x4 st = some (v, s') → V κ M_Rd_readRule (RI F) 28 [some (.ref a0), some (.ref a1), none, some (.int x3), some (.int x4), none, none] [] st := by
  intro d
  induction d with
  | zero =>
    intro a0 a1 x3 x4 st l_a0 l_a1 h
    exact nn_some h
  | succ d ih =>
    intro a0 a1 x3 x4 st l_a0 l_a1 h
    rw [L_Rd_readRule_28] at h
    refine b_Rd_readRule_28  (k1 := fun e13 => ?_) (k2 := fun e13 => ?_)
    · replace h := if_t e13 h
      exact hk_91 _ _ l_a0 h
    · replace h := if_f e13 h
      refine b_Rd_readRule_35  (k1 := fun e14 => ?_) (k2 := fun e14 => ?_)
      · replace h := if_t e14 h
        exact hk_91 _ _ l_a0 h
      · replace h := if_f e14 h
        obtain ⟨v2, s3, h15, h⟩ := bnd2_some h
        refine b_Rd_readRule_39 (l_a0 := l_a0) (k1 := t_Rd_clauseWord l_a0 (by decide) h15 ?_)
        obtain ⟨c5, h4, h⟩ := bnd_some h
        obtain ⟨l6, h⟩ := grd_some h
        refine b_Rd_readRule_47 (l_a0 := l_a0) (g1 := h4) (l_r4 := l6) (k2 := t_Cd_stepCount l6 rfl ?_)
        obtain ⟨s7, h16, h⟩ := bnd_some h
        refine b_Rd_readRule_56 (l_a0 := l_a0) (k1 := t_Rd_test (fun q h k => t_Rd_fact 10 (by decide) q h k) (by decide) l_a0 h16 ?_)
        obtain ⟨c9, h8, h⟩ := bnd_some h
        obtain ⟨l10, h⟩ := grd_some h
        refine b_Rd_readRule_63 (l_a0 := l_a0) (g1 := h8) (l_r5 := l10) (k2 := t_Cd_stepCount l10 rfl ?_)
        refine b_Rd_readRule_75 (l_c0 := l_a1) (k1 := t_Ru_add l_a1 rfl ?_)
        obtain ⟨v11, s12, h17, h⟩ := bnd2_some h
        refine b_Rd_readRule_78 (l_a0 := l_a0) (k1 := t_Rd_takesByte l_a0 h17 ?_)
        refine b_Rd_readRule_84  (k1 := ?_)
        exact ih _ _ _ _ _ l_a0 l_a1 h
theorem t_Rd_readRule {κ : Ko} {F : Int32 → AS → Prop} {a0 : Nat} {a1 : Nat} {x2 : Int32} {st : AS} {v : Int32} {s' : AS} (l_a0 : ly κ a0 = (6, 7)) (l_a1 : ly κ a1 = (7, 5)) (h : f_Rd_readRule κ a0 a1 x2 st = some (v, s')) (k : F v s') : C κ M_Rd_readRule [.ref a0, .ref a1, .int x2] st (RI F) := by
  unfold f_Rd_readRule at h
  refine e_Rd_readRule ?_
  refine b_Rd_readRule_0 (l_a0 := l_a0) (k1 := t_Rd_open l_a0 rfl ?_)
  refine b_Rd_readRule_5 (l_a1 := l_a1) (k1 := t_Ru_clear l_a1 rfl ?_)
  obtain ⟨l1, h⟩ := grd_some h
  refine b_Rd_readRule_9 (l_a1 := l_a1) (k1 := t_Ru_program l_a1 rfl ?_)
  refine b_Rd_readRule_14 (l_c0 := l_a0) (l_a0 := l_a0) (k1 := ?_)
  refine l_Rd_readRule_28 k ?_ FU _ _ _ _ _ l_a0 l_a1 h
  · intro v18 s20 l19 h
    obtain ⟨v21, s22, h23, h⟩ := bnd2_some h
    refine b_Rd_readRule_91 (l_a0 := l19) (k1 := t_Rd_close l19 h23 ?_)
    exact b_Rd_readRule_95  (k1 := lfI h k)
noncomputable def f_Sp_begin (κ : Ko) (a0 : Nat) (x1 : Int32) (st : AS) : AS := (gput (ui st a0 2 0) (a0 + 1) 21 (0 : Int32) x1)
theorem t_Sp_begin {κ : Ko} {F : AS → Prop} {a0 : Nat} {x1 : Int32} {st : AS} {s' : AS} (l_a0 : ly κ a0 = (10, 7)) (h : f_Sp_begin κ a0 x1 st = s') (k : F s') : C κ M_Sp_begin [.ref a0, .int x1] st (RV F) := by
  unfold f_Sp_begin at h
  refine e_Sp_begin ?_
  refine b_Sp_begin_0 (l_a0 := l_a0) (k1 := t_X_put (co10 1 50 21 rfl l_a0) rfl ?_)
  exact b_Sp_begin_14  (k1 := lfVT h k)
noncomputable def f_Sp_add (κ : Ko) (a0 : Nat) (x1 : Int32) (x2 : Int32) (st : AS) : AS := (gput (ui (gput st (a0 + 2) 20 (gi st a0 2) x1) a0 2 ((gi (gput st (a0 + 2) 20 (gi st a0 2) x1) a0 2) + 1)) (a0 + 1) 21 (gi (ui (gput st (a0 + 2) 20 (gi st a0 2) x1) a0 2 ((gi (gput st (a0 + 2) 20 (gi st a0 2) x1) a0 2) + 1)) a0 2) x2)
theorem t_Sp_add {κ : Ko} {F : AS → Prop} {a0 : Nat} {x1 : Int32} {x2 : Int32} {st : AS} {s' : AS} (l_a0 : ly κ a0 = (10, 7)) (h : f_Sp_add κ a0 x1 x2 st = s') (k : F s') : C κ M_Sp_add [.ref a0, .int x1, .int x2] st (RV F) := by
  unfold f_Sp_add at h
  refine e_Sp_add ?_
  refine b_Sp_add_0 (l_a0 := l_a0) (k1 := t_X_put (co10 2 50 20 rfl l_a0) rfl ?_)
  refine b_Sp_add_12 (l_a0 := l_a0) (k1 := t_X_put (co10 1 50 21 rfl l_a0) rfl ?_)
  exact b_Sp_add_34  (k1 := lfVT h k)
noncomputable def L_Rd_readStrip_22 (κ : Ko) (k_122 : Nat → AS → Option (Int32 × AS)) : Nat → Nat → Nat → Int32 → Int32 → AS → Option (Int32 × AS)
  | 0, _, _, _, _, _ => none
  | d + 1, a0, a1, x3, x4, st => if 20 < x4 then k_122 a0 st else if x3 = 0 then k_122 a0 st else bnd2 (f_Rd_nextPlace κ a0 st) (fun v3 s4 => bnd2 (f_Rd_takesByte κ a0 (77 : Int32) s4) (fun v5 s6 => jn (fun (v10 : Int32) (s11 : AS) => jn (fun (s13 : AS) => jn (fun (s17 : AS) => L_Rd_readStrip_22 κ k_122 d a0 a1 (if v10 = ((-1)) then (0 : Int32) else (1 : Int32) : Int32) (x4 + 1) s17) fun j16 => if (if v10 = ((-1)) then (0 : Int32) else (1 : Int32) : Int32) = 0 then j16 s13 else bnd2 (f_Rd_number κ a0 (1 : Int32) (9999 : Int32) s13) (fun v14 s15 => j16 (f_Sp_add κ a1 v10 v14 s15))) fun j12 => if (if v10 = ((-1)) then (0 : Int32) else (1 : Int32) : Int32) = 0 then j12 s11 else if x4 = 20 then j12 (f_Rd_fail κ a0 v3 (4 : Int32) s11) else j12 s11) fun j9 => if v5 = 0 then bnd2 (f_Rd_takesByte κ a0 (86 : Int32) s6) (fun v7 s8 => j9 (if v7 = 0 then ((-1) : Int32) else (1 : Int32) : Int32) s8) else j9 (0 : Int32) s6))
noncomputable def f_Rd_readStrip (κ : Ko) (a0 : Nat) (a1 : Nat) (x2 : Int32) (st : AS) : Option (Int32 × AS) := bnd2 (f_Rd_number κ a0 (1 : Int32) (9999 : Int32) (f_Rd_open κ a0 x2 st)) (fun v1 s2 => L_Rd_readStrip_22 κ (fun (v34 : Nat) (s36 : AS) => bnd2 (f_Rd_close κ v34 s36) (fun v37 s38 => some (v37, s38))) FU a0 a1 (1 : Int32) (0 : Int32) (f_Sp_begin κ a1 v1 s2))
theorem l_Rd_readStrip_22 {κ : Ko} {F : Int32 → AS → Prop} {v : Int32} {s' : AS} (k : F v s') {k_122 : Nat → AS → Option (Int32 × AS)} (hk_122 : ∀ (a0 : Nat) (st : AS), ly κ a0 = (6, 7) → k_122 a0 st = some (v, s') → V κ M_Rd_readStrip (RI F) 122 [some (.ref a0), none, none, none, none, none, none] [] st) : ∀ (d : Nat) (a0 : Nat) (a1 : Nat) (x3 : Int32) (x4 : Int32) (st : AS), ly κ a0 = (6, 7) → ly κ a1 = (10, 7) → L_Rd_readStrip_22 κ k_122 d a0 a1 x3 x4 st = some (v, s') → V κ M_Rd_readStrip (RI F) 22 [some (.ref a0), some (.ref a1), none, some (.int x3), some (.int x4), none, none] [] st := by
  intro d
  induction d with
  | zero =>
    intro a0 a1 x3 x4 st l_a0 l_a1 h
    exact nn_some h
  | succ d ih =>
    intro a0 a1 x3 x4 st l_a0 l_a1 h
    rw [L_Rd_readStrip_22] at h
    refine b_Rd_readStrip_22  (k1 := fun e18 => ?_) (k2 := fun e18 => ?_)
    · replace h := if_t e18 h
      exact hk_122 _ _ l_a0 h
    · replace h := if_f e18 h
      refine b_Rd_readStrip_29  (k1 := fun e19 => ?_) (k2 := fun e19 => ?_)
      · replace h := if_t e19 h
        exact hk_122 _ _ l_a0 h
      · replace h := if_f e19 h
        obtain ⟨v3, s4, h20, h⟩ := bnd2_some h
        refine b_Rd_readStrip_33 (l_a0 := l_a0) (k1 := t_Rd_nextPlace l_a0 h20 ?_)
        obtain ⟨v5, s6, h21, h⟩ := bnd2_some h
        refine b_Rd_readStrip_37 (l_a0 := l_a0) (k1 := t_Rd_takesByte l_a0 h21 ?_)
        obtain ⟨j9, hdj9, h⟩ := jn_some h
        have hj9 : ∀ (v10 : Int32) (s11 : AS), j9 v10 s11 = some (v, s') → V κ M_Rd_readStrip (RI F) 66 [some (.ref a0), some (.ref a1), none, none, some (.int x4), some (.int v3), none] [.int v10] s11 := by
          intro v10 s11 h
          rw [hdj9] at h
          have K23 : V κ M_Rd_readStrip (RI F) 79 [some (.ref a0), some (.ref a1), none, none, some (.int x4), some (.int v3), some (.int v10)] [.int (if v10 = ((-1)) then (0 : Int32) else (1 : Int32) : Int32)] s11 := by
            obtain ⟨j12, hdj12, h⟩ := jn_some h
            have hj12 : ∀ (s13 : AS), j12 s13 = some (v, s') → V κ M_Rd_readStrip (RI F) 98 [some (.ref a0), some (.ref a1), none, some (.int (if v10 = ((-1)) then (0 : Int32) else (1 : Int32) : Int32)), some (.int x4), none, some (.int v10)] [] s13 := by
              intro s13 h
              rw [hdj12] at h
              obtain ⟨j16, hdj16, h⟩ := jn_some h
              have hj16 : ∀ (s17 : AS), j16 s17 = some (v, s') → V κ M_Rd_readStrip (RI F) 116 [some (.ref a0), some (.ref a1), none, some (.int (if v10 = ((-1)) then (0 : Int32) else (1 : Int32) : Int32)), some (.int x4), none, none] [] s17 := by
                intro s17 h
                rw [hdj16] at h
                refine b_Rd_readStrip_116  (k1 := ?_)
                exact ih _ _ _ _ _ l_a0 l_a1 h
              clear hdj16
              refine b_Rd_readStrip_98  (k1 := fun e24 => ?_) (k2 := fun e24 => ?_)
              · replace h := if_t e24 h
                exact hj16 _  h
              · replace h := if_f e24 h
                obtain ⟨v14, s15, h25, h⟩ := bnd2_some h
                refine b_Rd_readStrip_102 (l_a0 := l_a0) (k1 := t_Rd_number l_a0 h25 ?_)
                refine b_Rd_readStrip_113 (l_c0 := l_a1) (k1 := t_Sp_add l_a1 rfl ?_)
                exact hj16 _  h
            clear hdj12
            refine b_Rd_readStrip_79  (k1 := fun e26 => ?_) (k2 := fun e26 => ?_)
            · replace h := if_t e26 h
              exact hj12 _  h
            · replace h := if_f e26 h
              refine b_Rd_readStrip_84  (k1 := fun e27 => ?_) (k2 := fun e27 => ?_)
              · replace h := if_f e27 h
                exact hj12 _  h
              · replace h := if_t e27 h
                refine b_Rd_readStrip_91 (l_a0 := l_a0) (k1 := t_Rd_fail l_a0 rfl ?_)
                exact hj12 _  h
          refine b_Rd_readStrip_66  (k1 := fun e28 => ?_) (k2 := fun e28 => ?_)
          · refine b_Rd_readStrip_78  (k1 := ?_)
            exact (ite_t (P := fun z => V κ M_Rd_readStrip (RI F) 79 [some (.ref a0), some (.ref a1), none, none, some (.int x4), some (.int v3), some (.int v10)] [.int z] s11) e28 K23)
          · refine b_Rd_readStrip_74  (k1 := ?_)
            exact (ite_f (P := fun z => V κ M_Rd_readStrip (RI F) 79 [some (.ref a0), some (.ref a1), none, none, some (.int x4), some (.int v3), some (.int v10)] [.int z] s11) e28 K23)
        clear hdj9
        refine b_Rd_readStrip_45  (k1 := fun e29 => ?_) (k2 := fun e29 => ?_)
        · replace h := if_t e29 h
          obtain ⟨v7, s8, h30, h⟩ := bnd2_some h
          refine b_Rd_readStrip_52 (l_a0 := l_a0) (k1 := t_Rd_takesByte l_a0 h30 ?_)
          have K32 : V κ M_Rd_readStrip (RI F) 66 [some (.ref a0), some (.ref a1), none, none, some (.int x4), some (.int v3), none] [.int (if v7 = 0 then ((-1) : Int32) else (1 : Int32) : Int32)] s8 := by
            exact hj9 _ _  h
          refine b_Rd_readStrip_58  (k1 := fun e33 => ?_) (k2 := fun e33 => ?_)
          · refine b_Rd_readStrip_65  (k1 := ?_)
            exact (ite_t (P := fun z => V κ M_Rd_readStrip (RI F) 66 [some (.ref a0), some (.ref a1), none, none, some (.int x4), some (.int v3), none] [.int z] s8) e33 K32)
          · refine b_Rd_readStrip_61  (k1 := ?_)
            exact (ite_f (P := fun z => V κ M_Rd_readStrip (RI F) 66 [some (.ref a0), some (.ref a1), none, none, some (.int x4), some (.int v3), none] [.int z] s8) e33 K32)
        · replace h := if_f e29 h
          refine b_Rd_readStrip_48  (k1 := ?_)
          exact hj9 _ _  h
theorem t_Rd_readStrip {κ : Ko} {F : Int32 → AS → Prop} {a0 : Nat} {a1 : Nat} {x2 : Int32} {st : AS} {v : Int32} {s' : AS} (l_a0 : ly κ a0 = (6, 7)) (l_a1 : ly κ a1 = (10, 7)) (h : f_Rd_readStrip κ a0 a1 x2 st = some (v, s')) (k : F v s') : C κ M_Rd_readStrip [.ref a0, .ref a1, .int x2] st (RI F) := by
  unfold f_Rd_readStrip at h
  refine e_Rd_readStrip ?_
  refine b_Rd_readStrip_0 (l_a0 := l_a0) (k1 := t_Rd_open l_a0 rfl ?_)
  obtain ⟨v1, s2, h39, h⟩ := bnd2_some h
  refine b_Rd_readStrip_5 (l_a0 := l_a0) (k1 := t_Rd_number l_a0 h39 ?_)
  refine b_Rd_readStrip_14 (l_c0 := l_a1) (k1 := t_Sp_begin l_a1 rfl ?_)
  refine b_Rd_readStrip_17  (k1 := ?_)
  refine l_Rd_readStrip_22 k ?_ FU _ _ _ _ _ l_a0 l_a1 h
  · intro v34 s36 l35 h
    obtain ⟨v37, s38, h40, h⟩ := bnd2_some h
    refine b_Rd_readStrip_122 (l_a0 := l35) (k1 := t_Rd_close l35 h40 ?_)
    exact b_Rd_readStrip_126  (k1 := lfI h k)
noncomputable def f_X_text (κ : Ko) (a0 : Nat) (x1 : Int32) (st : AS) : Option (Int32 × AS) := if (wi (((if (wi ((x1 : Int32).toInt64) (0 : Int64) (3 : Int64)) = 0 then ((-1) : Int32) else (gat (gi st (a0 + 7)) 4 x1) : Int32) : Int32).toInt64) (0 : Int64) (5 : Int64)) = 0 then some (((-1) : Int32), st) else jn (fun (v26 : Int32) (s27 : AS) => if v26 = 0 then some ((if (wi ((x1 : Int32).toInt64) (0 : Int64) (3 : Int64)) = 0 then ((-1) : Int32) else (gat (gi st (a0 + 7)) 4 x1) : Int32), (gput (ui s27 a0 1 0) (a0 + 7) 4 x1 ((if (wi ((x1 : Int32).toInt64) (0 : Int64) (3 : Int64)) = 0 then ((-1) : Int32) else (gat (gi st (a0 + 7)) 4 x1) : Int32) + 1))) else some (((-2) : Int32) - v26, (ui s27 a0 1 0))) fun j25 => if x1 = 0 then grd (vp_in (if (wi ((x1 : Int32).toInt64) (0 : Int64) (3 : Int64)) = 0 then ((-1) : Int32) else (gat (gi st (a0 + 7)) 4 x1) : Int32) 6) (bnd (gr st (a0 + 8) ((if (wi ((x1 : Int32).toInt64) (0 : Int64) (3 : Int64)) = 0 then ((-1) : Int32) else (gat (gi st (a0 + 7)) 4 x1) : Int32) : Int32).toNatClampNeg) (fun c21 => grd (ly κ c21 = (3, 7)) (bnd2 (f_Rd_readLaw κ (a0 + 2) c21 (gi st a0 1) st) (fun v23 s24 => j25 v23 s24)))) else if x1 = 1 then grd (vp_in (if (wi ((x1 : Int32).toInt64) (0 : Int64) (3 : Int64)) = 0 then ((-1) : Int32) else (gat (gi st (a0 + 7)) 4 x1) : Int32) 6) (bnd (gr st (a0 + 9) ((if (wi ((x1 : Int32).toInt64) (0 : Int64) (3 : Int64)) = 0 then ((-1) : Int32) else (gat (gi st (a0 + 7)) 4 x1) : Int32) : Int32).toNatClampNeg) (fun c15 => grd (ly κ c15 = (2, 5)) (bnd2 (f_Rd_readDoing κ (a0 + 2) c15 (gi st a0 1) st) (fun v17 s18 => j25 v17 s18)))) else if x1 = 2 then grd (vp_in (if (wi ((x1 : Int32).toInt64) (0 : Int64) (3 : Int64)) = 0 then ((-1) : Int32) else (gat (gi st (a0 + 7)) 4 x1) : Int32) 6) (bnd (gr st (a0 + 10) ((if (wi ((x1 : Int32).toInt64) (0 : Int64) (3 : Int64)) = 0 then ((-1) : Int32) else (gat (gi st (a0 + 7)) 4 x1) : Int32) : Int32).toNatClampNeg) (fun c9 => grd (ly κ c9 = (7, 5)) (bnd2 (f_Rd_readRule κ (a0 + 2) c9 (gi st a0 1) st) (fun v11 s12 => j25 v11 s12)))) else grd (vp_in (if (wi ((x1 : Int32).toInt64) (0 : Int64) (3 : Int64)) = 0 then ((-1) : Int32) else (gat (gi st (a0 + 7)) 4 x1) : Int32) 6) (bnd (gr st (a0 + 11) ((if (wi ((x1 : Int32).toInt64) (0 : Int64) (3 : Int64)) = 0 then ((-1) : Int32) else (gat (gi st (a0 + 7)) 4 x1) : Int32) : Int32).toNatClampNeg) (fun c3 => grd (ly κ c3 = (10, 7)) (bnd2 (f_Rd_readStrip κ (a0 + 2) c3 (gi st a0 1) st) (fun v5 s6 => j25 v5 s6))))
theorem t_X_text {κ : Ko} {F : Int32 → AS → Prop} {a0 : Nat} {x1 : Int32} {st : AS} {v : Int32} {s' : AS} (l_a0 : ly κ a0 = (11, 15)) (h : f_X_text κ a0 x1 st = some (v, s')) (k : F v s') : C κ M_X_text [.ref a0, .int x1] st (RI F) := by
  unfold f_X_text at h
  refine e_X_text ?_
  refine b_X_text_0  (k1 := t_X_within  rfl ?_)
  have K29 : V κ M_X_text (RI F) 24 [some (.ref a0), some (.int x1), none, none] [.int (if (wi ((x1 : Int32).toInt64) (0 : Int64) (3 : Int64)) = 0 then ((-1) : Int32) else (gat (gi st (a0 + 7)) 4 x1) : Int32)] st := by
    refine b_X_text_24  (k1 := t_X_within  rfl ?_)
    refine b_X_text_34  (k1 := fun e30 => ?_) (k2 := fun e30 => ?_)
    · replace h := if_f e30 h
      obtain ⟨j25, hdj25, h⟩ := jn_some h
      have hj25 : ∀ (v26 : Int32) (s27 : AS), j25 v26 s27 = some (v, s') → V κ M_X_text (RI F) 134 [some (.ref a0), some (.int x1), some (.int (if (wi ((x1 : Int32).toInt64) (0 : Int64) (3 : Int64)) = 0 then ((-1) : Int32) else (gat (gi st (a0 + 7)) 4 x1) : Int32)), some (.int v26)] [] s27 := by
        intro v26 s27 h
        rw [hdj25] at h
        refine b_X_text_134 (l_a0 := l_a0) (k1 := fun e31 => ?_) (k2 := fun e31 => ?_)
        · replace h := if_t e31 h
          refine b_X_text_148 (l_a0 := l_a0) (k1 := t_X_put (co11 7 50 4 rfl l_a0) rfl ?_)
          exact b_X_text_159  (k1 := lfI h k)
        · replace h := if_f e31 h
          exact b_X_text_143  (k1 := lfI h k)
      clear hdj25
      refine b_X_text_39  (k1 := fun e32 => ?_) (k2 := fun e32 => ?_)
      · replace h := if_f e32 h
        refine b_X_text_64  (k1 := fun e33 => ?_) (k2 := fun e33 => ?_)
        · replace h := if_f e33 h
          refine b_X_text_90  (k1 := fun e34 => ?_) (k2 := fun e34 => ?_)
          · replace h := if_f e34 h
            obtain ⟨h1, h⟩ := grd_some h
            obtain ⟨c3, h2, h⟩ := bnd_some h
            obtain ⟨l4, h⟩ := grd_some h
            obtain ⟨v5, s6, h35, h⟩ := bnd2_some h
            refine b_X_text_116 (l_a0 := l_a0) (b1 := h1) (g2 := h2) (k3 := t_Rd_readStrip (co11 2 6 7 rfl l_a0) l4 h35 ?_)
            refine b_X_text_133  (k1 := ?_)
            exact hj25 _ _  h
          · replace h := if_t e34 h
            obtain ⟨h7, h⟩ := grd_some h
            obtain ⟨c9, h8, h⟩ := bnd_some h
            obtain ⟨l10, h⟩ := grd_some h
            obtain ⟨v11, s12, h36, h⟩ := bnd2_some h
            refine b_X_text_95 (l_a0 := l_a0) (b1 := h7) (g2 := h8) (k3 := t_Rd_readRule (co11 2 6 7 rfl l_a0) l10 h36 ?_)
            refine b_X_text_112  (k1 := ?_)
            exact hj25 _ _  h
        · replace h := if_t e33 h
          obtain ⟨h13, h⟩ := grd_some h
          obtain ⟨c15, h14, h⟩ := bnd_some h
          obtain ⟨l16, h⟩ := grd_some h
          obtain ⟨v17, s18, h37, h⟩ := bnd2_some h
          refine b_X_text_69 (l_a0 := l_a0) (b1 := h13) (g2 := h14) (k3 := t_Rd_readDoing (co11 2 6 7 rfl l_a0) l16 h37 ?_)
          refine b_X_text_86  (k1 := ?_)
          exact hj25 _ _  h
      · replace h := if_t e32 h
        obtain ⟨h19, h⟩ := grd_some h
        obtain ⟨c21, h20, h⟩ := bnd_some h
        obtain ⟨l22, h⟩ := grd_some h
        obtain ⟨v23, s24, h38, h⟩ := bnd2_some h
        refine b_X_text_43 (l_a0 := l_a0) (b1 := h19) (g2 := h20) (k3 := t_Rd_readLaw (co11 2 6 7 rfl l_a0) l22 h38 ?_)
        refine b_X_text_60  (k1 := ?_)
        exact hj25 _ _  h
    · replace h := if_t e30 h
      exact b_X_text_37  (k1 := lfI h k)
  refine b_X_text_9  (k1 := fun e39 => ?_) (k2 := fun e39 => ?_)
  · refine b_X_text_23  (k1 := ?_)
    exact (ite_t (P := fun z => V κ M_X_text (RI F) 24 [some (.ref a0), some (.int x1), none, none] [.int z] st) e39 K29)
  · refine b_X_text_12 (l_a0 := l_a0) (k1 := t_X_at (co11 7 50 4 rfl l_a0) rfl ?_)
    refine b_X_text_20  (k1 := ?_)
    exact (ite_f (P := fun z => V κ M_X_text (RI F) 24 [some (.ref a0), some (.int x1), none, none] [.int z] st) e39 K29)
noncomputable def f_X_lawAt (κ : Ko) (a0 : Nat) (x1 : Int32) (st : AS) : Option (Option Nat) := jn (some none) fun j5 => if (wi ((x1 : Int32).toInt64) (0 : Int64) (((gat (gi st (a0 + 7)) 4 (0 : Int32)) - 1 : Int32).toInt64)) = 0 then j5 else if 6 ≤ x1 then j5 else grd (vp_in x1 6) (bnd (gr st (a0 + 8) (x1 : Int32).toNatClampNeg) (fun c3 => grd (ly κ c3 = (3, 7)) (some (some c3))))
theorem t_X_lawAt {κ : Ko} {F : Value → AS → Prop} {a0 : Nat} {x1 : Int32} {st : AS} {v : Option Nat} (l_a0 : ly κ a0 = (11, 15)) (h : f_X_lawAt κ a0 x1 st = some v) (k : F (vof v) st) : C κ M_X_lawAt [.ref a0, .int x1] st (RR F) := by
  unfold f_X_lawAt at h
  refine e_X_lawAt ?_
  refine b_X_lawAt_0 (l_a0 := l_a0) (k1 := t_X_at (co11 7 50 4 rfl l_a0) rfl ?_)
  refine b_X_lawAt_11  (k1 := t_X_within  rfl ?_)
  obtain ⟨j5, hdj5, h⟩ := jn_some h
  have hj5 : j5 = some v → V κ M_X_lawAt (RR F) 38 [none, none] [] st := by
    intro h
    rw [hdj5] at h
    exact b_X_lawAt_38  (k1 := lfR0P h k)
  clear hdj5
  refine b_X_lawAt_17  (k1 := fun e6 => ?_) (k2 := fun e6 => ?_)
  · replace h := if_t e6 h
    exact hj5  h
  · replace h := if_f e6 h
    refine b_X_lawAt_20 (l_a0 := l_a0) (k1 := fun e7 => ?_) (k2 := fun e7 => ?_)
    · replace h := if_t e7 h
      exact hj5  h
    · replace h := if_f e7 h
      obtain ⟨h1, h⟩ := grd_some h
      obtain ⟨c3, h2, h⟩ := bnd_some h
      obtain ⟨l4, h⟩ := grd_some h
      exact b_X_lawAt_29 (l_a0 := l_a0) (b1 := h1) (g2 := h2) (k3 := lfR1P h k)
noncomputable def f_Pl_size (κ : Ko) (a0 : Nat) (st : AS) : Int32 := (gi st a0 1)
theorem t_Pl_size {κ : Ko} {F : Int32 → AS → Prop} {a0 : Nat} {st : AS} {v : Int32} (l_a0 : ly κ a0 = (5, 3)) (h : f_Pl_size κ a0 st = v) (k : F v st) : C κ M_Pl_size [.ref a0] st (RI F) := by
  unfold f_Pl_size at h
  refine e_Pl_size ?_
  exact b_Pl_size_0 (l_a0 := l_a0) (k1 := lfIPT h k)
noncomputable def f_Sh_putFacet (κ : Ko) (a0 : Nat) (x1 : Int32) (x2 : Int32) (x3 : Int32) (st : AS) : Option AS := jn (some st) fun j2 => if ((x1 * 4) + x2) < 0 then j2 else if 800 ≤ ((x1 * 4) + x2) then j2 else grd (vp_in ((x1 * 4) + x2) 800) (some (ui st (a0 + 1) (((x1 * 4) + x2) : Int32).toNatClampNeg x3))
theorem t_Sh_putFacet {κ : Ko} {F : AS → Prop} {a0 : Nat} {x1 : Int32} {x2 : Int32} {x3 : Int32} {st : AS} {s' : AS} (l_a0 : ly κ a0 = (8, 14)) (h : f_Sh_putFacet κ a0 x1 x2 x3 st = some s') (k : F s') : C κ M_Sh_putFacet [.ref a0, .int x1, .int x2, .int x3] st (RV F) := by
  unfold f_Sh_putFacet at h
  refine e_Sh_putFacet ?_
  obtain ⟨j2, hdj2, h⟩ := jn_some h
  have hj2 : j2 = some s' → V κ M_Sh_putFacet (RV F) 30 [none, none, none, none, none] [] st := by
    intro h
    rw [hdj2] at h
    exact b_Sh_putFacet_30  (k1 := lfV h k)
  clear hdj2
  refine b_Sh_putFacet_0  (k1 := fun e3 => ?_) (k2 := fun e3 => ?_)
  · replace h := if_t e3 h
    exact hj2  h
  · replace h := if_f e3 h
    refine b_Sh_putFacet_12 (l_a0 := l_a0) (k1 := fun e4 => ?_) (k2 := fun e4 => ?_)
    · replace h := if_t e4 h
      exact hj2  h
    · replace h := if_f e4 h
      obtain ⟨h1, h⟩ := grd_some h
      exact b_Sh_putFacet_22 (l_a0 := l_a0) (b1 := h1) (k2 := lfV h k)
noncomputable def f_Sh_addFacet (κ : Ko) (a0 : Nat) (x1 : Int32) (x2 : Int32) (x3 : Int32) (x4 : Int32) (st : AS) : Option AS := bnd (f_Sh_putFacet κ a0 (gi st a0 11) (0 : Int32) x1 st) (fun s1 => bnd (f_Sh_putFacet κ a0 (gi s1 a0 11) (1 : Int32) x2 s1) (fun s2 => bnd (f_Sh_putFacet κ a0 (gi s2 a0 11) (2 : Int32) x3 s2) (fun s3 => bnd (f_Sh_putFacet κ a0 (gi s3 a0 11) (3 : Int32) x4 s3) (fun s4 => some (ui s4 a0 11 ((gi s4 a0 11) + 1))))))
theorem t_Sh_addFacet {κ : Ko} {F : AS → Prop} {a0 : Nat} {x1 : Int32} {x2 : Int32} {x3 : Int32} {x4 : Int32} {st : AS} {s' : AS} (l_a0 : ly κ a0 = (8, 14)) (h : f_Sh_addFacet κ a0 x1 x2 x3 x4 st = some s') (k : F s') : C κ M_Sh_addFacet [.ref a0, .int x1, .int x2, .int x3, .int x4] st (RV F) := by
  unfold f_Sh_addFacet at h
  refine e_Sh_addFacet ?_
  obtain ⟨s1, h5, h⟩ := bnd_some h
  refine b_Sh_addFacet_0 (l_a0 := l_a0) (k1 := t_Sh_putFacet l_a0 h5 ?_)
  obtain ⟨s2, h6, h⟩ := bnd_some h
  refine b_Sh_addFacet_10 (l_a0 := l_a0) (k1 := t_Sh_putFacet l_a0 h6 ?_)
  obtain ⟨s3, h7, h⟩ := bnd_some h
  refine b_Sh_addFacet_20 (l_a0 := l_a0) (k1 := t_Sh_putFacet l_a0 h7 ?_)
  obtain ⟨s4, h8, h⟩ := bnd_some h
  refine b_Sh_addFacet_30 (l_a0 := l_a0) (k1 := t_Sh_putFacet l_a0 h8 ?_)
  exact b_Sh_addFacet_41 (l_a0 := l_a0) (k1 := lfV h k)
noncomputable def f_Sh_begin (κ : Ko) (a0 : Nat) (x1 : Int32) (x2 : Int32) (a3 : Nat) (x4 : Int32) (st : AS) : Option AS := bnd (f_Sh_addFacet κ a0 (0 : Int32) (0 : Int32) (gi (ui (ui (ui (ul (ui (ui (ui (ur (ui (ui st a0 5 x1) a0 6 x2) a0 4 (some a3)) a0 7 x4) a0 8 x1) a0 9 x2) a0 13 ((x4 : Int32).toInt64)) a0 10 0) a0 12 0) a0 11 0) a0 8) (gi (ui (ui (ui (ul (ui (ui (ui (ur (ui (ui st a0 5 x1) a0 6 x2) a0 4 (some a3)) a0 7 x4) a0 8 x1) a0 9 x2) a0 13 ((x4 : Int32).toInt64)) a0 10 0) a0 12 0) a0 11 0) a0 9) (ui (ui (ui (ul (ui (ui (ui (ur (ui (ui st a0 5 x1) a0 6 x2) a0 4 (some a3)) a0 7 x4) a0 8 x1) a0 9 x2) a0 13 ((x4 : Int32).toInt64)) a0 10 0) a0 12 0) a0 11 0)) (fun s1 => some s1)
theorem t_Sh_begin {κ : Ko} {F : AS → Prop} {a0 : Nat} {x1 : Int32} {x2 : Int32} {a3 : Nat} {x4 : Int32} {st : AS} {s' : AS} (l_a0 : ly κ a0 = (8, 14)) (l_a3 : ly κ a3 = (3, 7)) (h : f_Sh_begin κ a0 x1 x2 a3 x4 st = some s') (k : F s') : C κ M_Sh_begin [.ref a0, .int x1, .int x2, .ref a3, .int x4] st (RV F) := by
  unfold f_Sh_begin at h
  refine e_Sh_begin ?_
  obtain ⟨s1, h2, h⟩ := bnd_some h
  refine b_Sh_begin_0 (l_a0 := l_a0) (k1 := t_Sh_addFacet l_a0 h2 ?_)
  exact b_Sh_begin_67  (k1 := lfV h k)
noncomputable def f_Pl_put (κ : Ko) (a0 : Nat) (x1 : Int32) (x2 : Int32) (a3 : Nat) (x4 : Int32) (st : AS) : Option (Int32 × AS) := if (wi ((gi st a0 1 : Int32).toInt64) (0 : Int64) (((6 : Int32) - 1 : Int32).toInt64)) = 0 then some (((-1) : Int32), st) else grd (vp_in (gi st a0 1) 6) (bnd (gr st (a0 + 1) (gi st a0 1 : Int32).toNatClampNeg) (fun c3 => grd (ly κ c3 = (8, 14)) (bnd (f_Sh_begin κ c3 x1 x2 a3 x4 st) (fun s5 => some ((gi (ui s5 a0 1 ((gi s5 a0 1) + 1)) a0 1) - 1, ui s5 a0 1 ((gi s5 a0 1) + 1))))))
theorem t_Pl_put {κ : Ko} {F : Int32 → AS → Prop} {a0 : Nat} {x1 : Int32} {x2 : Int32} {a3 : Nat} {x4 : Int32} {st : AS} {v : Int32} {s' : AS} (l_a0 : ly κ a0 = (5, 3)) (l_a3 : ly κ a3 = (3, 7)) (h : f_Pl_put κ a0 x1 x2 a3 x4 st = some (v, s')) (k : F v s') : C κ M_Pl_put [.ref a0, .int x1, .int x2, .ref a3, .int x4] st (RI F) := by
  unfold f_Pl_put at h
  refine e_Pl_put ?_
  refine b_Pl_put_0 (l_a0 := l_a0) (k1 := t_X_within  rfl ?_)
  refine b_Pl_put_17  (k1 := fun e6 => ?_) (k2 := fun e6 => ?_)
  · replace h := if_f e6 h
    obtain ⟨h1, h⟩ := grd_some h
    obtain ⟨c3, h2, h⟩ := bnd_some h
    obtain ⟨l4, h⟩ := grd_some h
    obtain ⟨s5, h7, h⟩ := bnd_some h
    refine b_Pl_put_22 (l_a0 := l_a0) (b1 := h1) (g2 := h2) (l_r5 := l4) (k3 := t_Sh_begin l4 l_a3 h7 ?_)
    exact b_Pl_put_39 (l_a0 := l_a0) (k1 := lfI h k)
  · replace h := if_t e6 h
    exact b_Pl_put_20  (k1 := lfI h k)
noncomputable def f_X_sheet (κ : Ko) (a0 : Nat) (x1 : Int32) (x2 : Int32) (x3 : Int32) (x4 : Int32) (st : AS) : Option (Int32 × AS) := bnd (f_X_lawAt κ a0 x3 st) (fun v1 => nul v1 (jn (fun (v12 : Int32) => some (((-1) : Int32), st)) fun j11 => jn (j11 (0 : Int32)) fun j10 => if (wi ((x1 : Int32).toInt64) (2 : Int64) (200 : Int64)) = 0 then j10 else if (wi ((x2 : Int32).toInt64) (2 : Int64) (200 : Int64)) = 0 then j10 else if x4 < 0 then j10 else j11 (1 : Int32)) (fun c2 => grd (ly κ c2 = (3, 7)) (jn (fun (v6 : Int32) => jn (some (((-1) : Int32), st)) fun j9 => if v6 = 0 then j9 else if (f_Pl_size κ (a0 + 21) st) < 6 then bnd2 (f_Pl_put κ (a0 + 21) x1 x2 c2 x4 st) (fun v7 s8 => some (v7, s8)) else j9) fun j5 => jn (j5 (0 : Int32)) fun j4 => if (wi ((x1 : Int32).toInt64) (2 : Int64) (200 : Int64)) = 0 then j4 else if (wi ((x2 : Int32).toInt64) (2 : Int64) (200 : Int64)) = 0 then j4 else if x4 < 0 then j4 else j5 (1 : Int32))))
theorem t_X_sheet {κ : Ko} {F : Int32 → AS → Prop} {a0 : Nat} {x1 : Int32} {x2 : Int32} {x3 : Int32} {x4 : Int32} {st : AS} {v : Int32} {s' : AS} (l_a0 : ly κ a0 = (11, 15)) (h : f_X_sheet κ a0 x1 x2 x3 x4 st = some (v, s')) (k : F v s') : C κ M_X_sheet [.ref a0, .int x1, .int x2, .int x3, .int x4] st (RI F) := by
  unfold f_X_sheet at h
  refine e_X_sheet ?_
  obtain ⟨v1, h13, h⟩ := bnd_some h
  refine b_X_sheet_0 (l_a0 := l_a0) (k1 := t_X_lawAt l_a0 h13 ?_)
  rcases v1 with _ | c2
  · replace h := nul_n h
    refine b_X_sheet_5_RN  (k1 := t_X_within  rfl ?_)
    obtain ⟨j11, hdj11, h⟩ := jn_some h
    have hj11 : ∀ (v12 : Int32), j11 v12 = some (v, s') → V κ M_X_sheet (RI F) 45 [some (.ref a0), some (.int x1), some (.int x2), none, some (.int x4), some (.null), none] [.int v12] st := by
      intro v12 h
      rw [hdj11] at h
      exact b_X_sheet_45_RN  (k1 := lfI h k)
    clear hdj11
    obtain ⟨j10, hdj10, h⟩ := jn_some h
    have hj10 : j10 = some (v, s') → V κ M_X_sheet (RI F) 44 [some (.ref a0), some (.int x1), some (.int x2), none, some (.int x4), some (.null), none] [] st := by
      intro h
      rw [hdj10] at h
      refine b_X_sheet_44_RN  (k1 := ?_)
      exact hj11 _  h
    clear hdj10
    refine b_X_sheet_18_RN  (k1 := fun e14 => ?_) (k2 := fun e14 => ?_)
    · replace h := if_t e14 h
      exact hj10  h
    · replace h := if_f e14 h
      refine b_X_sheet_21_RN  (k1 := t_X_within  rfl ?_)
      refine b_X_sheet_32_RN  (k1 := fun e15 => ?_) (k2 := fun e15 => ?_)
      · replace h := if_t e15 h
        exact hj10  h
      · replace h := if_f e15 h
        refine b_X_sheet_35_RN  (k1 := fun e16 => ?_) (k2 := fun e16 => ?_)
        · replace h := if_t e16 h
          exact hj10  h
        · replace h := if_f e16 h
          refine b_X_sheet_40_RN  (k1 := ?_)
          exact hj11 _  h
  · obtain ⟨l3, h⟩ := grd_some (nul_s h)
    refine b_X_sheet_5_RR  (k1 := t_X_within  rfl ?_)
    obtain ⟨j5, hdj5, h⟩ := jn_some h
    have hj5 : ∀ (v6 : Int32), j5 v6 = some (v, s') → V κ M_X_sheet (RI F) 45 [some (.ref a0), some (.int x1), some (.int x2), none, some (.int x4), some (.ref c2), none] [.int v6] st := by
      intro v6 h
      rw [hdj5] at h
      obtain ⟨j9, hdj9, h⟩ := jn_some h
      have hj9 : j9 = some (v, s') → V κ M_X_sheet (RI F) 69 [none, none, none, none, none, none, none] [] st := by
        intro h
        rw [hdj9] at h
        exact b_X_sheet_69  (k1 := lfI h k)
      clear hdj9
      refine b_X_sheet_45_RR  (k1 := fun e17 => ?_) (k2 := fun e17 => ?_)
      · replace h := if_t e17 h
        exact hj9  h
      · replace h := if_f e17 h
        refine b_X_sheet_57 (l_a0 := l_a0) (k1 := t_Pl_size (co11 21 5 3 rfl l_a0) rfl ?_)
        refine b_X_sheet_64  (k1 := fun e18 => ?_) (k2 := fun e18 => ?_)
        · replace h := if_t e18 h
          obtain ⟨v7, s8, h19, h⟩ := bnd2_some h
          refine b_X_sheet_71 (l_a0 := l_a0) (k1 := t_Pl_put (co11 21 5 3 rfl l_a0) l3 h19 ?_)
          exact b_X_sheet_84  (k1 := lfI h k)
        · replace h := if_f e18 h
          exact hj9  h
    clear hdj5
    obtain ⟨j4, hdj4, h⟩ := jn_some h
    have hj4 : j4 = some (v, s') → V κ M_X_sheet (RI F) 44 [some (.ref a0), some (.int x1), some (.int x2), none, some (.int x4), some (.ref c2), none] [] st := by
      intro h
      rw [hdj4] at h
      refine b_X_sheet_44_RR  (k1 := ?_)
      exact hj5 _  h
    clear hdj4
    refine b_X_sheet_18_RR  (k1 := fun e20 => ?_) (k2 := fun e20 => ?_)
    · replace h := if_t e20 h
      exact hj4  h
    · replace h := if_f e20 h
      refine b_X_sheet_21_RR  (k1 := t_X_within  rfl ?_)
      refine b_X_sheet_32_RR  (k1 := fun e21 => ?_) (k2 := fun e21 => ?_)
      · replace h := if_t e21 h
        exact hj4  h
      · replace h := if_f e21 h
        refine b_X_sheet_35_RR  (k1 := fun e22 => ?_) (k2 := fun e22 => ?_)
        · replace h := if_t e22 h
          exact hj4  h
        · replace h := if_f e22 h
          refine b_X_sheet_40_RR  (k1 := ?_)
          exact hj5 _  h
noncomputable def f_Pl_get (κ : Ko) (a0 : Nat) (x1 : Int32) (st : AS) : Option (Option Nat) := jn (some none) fun j5 => if (wi ((x1 : Int32).toInt64) (0 : Int64) (((gi st a0 1) - 1 : Int32).toInt64)) = 0 then j5 else if 6 ≤ x1 then j5 else grd (vp_in x1 6) (bnd (gr st (a0 + 1) (x1 : Int32).toNatClampNeg) (fun c3 => grd (ly κ c3 = (8, 14)) (some (some c3))))
theorem t_Pl_get {κ : Ko} {F : Value → AS → Prop} {a0 : Nat} {x1 : Int32} {st : AS} {v : Option Nat} (l_a0 : ly κ a0 = (5, 3)) (h : f_Pl_get κ a0 x1 st = some v) (k : F (vof v) st) : C κ M_Pl_get [.ref a0, .int x1] st (RR F) := by
  unfold f_Pl_get at h
  refine e_Pl_get ?_
  refine b_Pl_get_0 (l_a0 := l_a0) (k1 := t_X_within  rfl ?_)
  obtain ⟨j5, hdj5, h⟩ := jn_some h
  have hj5 : j5 = some v → V κ M_Pl_get (RR F) 34 [none, none] [] st := by
    intro h
    rw [hdj5] at h
    exact b_Pl_get_34  (k1 := lfR0P h k)
  clear hdj5
  refine b_Pl_get_13  (k1 := fun e6 => ?_) (k2 := fun e6 => ?_)
  · replace h := if_t e6 h
    exact hj5  h
  · replace h := if_f e6 h
    refine b_Pl_get_16 (l_a0 := l_a0) (k1 := fun e7 => ?_) (k2 := fun e7 => ?_)
    · replace h := if_t e7 h
      exact hj5  h
    · replace h := if_f e7 h
      obtain ⟨h1, h⟩ := grd_some h
      obtain ⟨c3, h2, h⟩ := bnd_some h
      obtain ⟨l4, h⟩ := grd_some h
      exact b_Pl_get_25 (l_a0 := l_a0) (b1 := h1) (g2 := h2) (k3 := lfR1P h k)
noncomputable def f_X_isTight (κ : Ko) (x0 : Int32) (st : AS) : Int32 := (wi ((x0 : Int32).toInt64) (1 : Int64) (99 : Int64))
theorem t_X_isTight {κ : Ko} {F : Int32 → AS → Prop} {x0 : Int32} {st : AS} {v : Int32} (h : f_X_isTight κ x0 st = v) (k : F v st) : C κ M_X_isTight [.int x0] st (RI F) := by
  unfold f_X_isTight at h
  refine e_X_isTight ?_
  refine b_X_isTight_0  (k1 := t_X_within  rfl ?_)
  exact b_X_isTight_9 (nz2 := wi01) (k1 := lfIPT h k)
noncomputable def f_Sh_ridgePart (κ : Ko) (a0 : Nat) (x1 : Int32) (x2 : Int32) (st : AS) : Option Int32 := jn (some (0 : Int32)) fun j2 => if ((x1 * 7) + x2) < 0 then j2 else if 2800 ≤ ((x1 * 7) + x2) then j2 else grd (vp_in ((x1 * 7) + x2) 2800) (some (gi st (a0 + 2) (((x1 * 7) + x2) : Int32).toNatClampNeg))
theorem t_Sh_ridgePart {κ : Ko} {F : Int32 → AS → Prop} {a0 : Nat} {x1 : Int32} {x2 : Int32} {st : AS} {v : Int32} (l_a0 : ly κ a0 = (8, 14)) (h : f_Sh_ridgePart κ a0 x1 x2 st = some v) (k : F v st) : C κ M_Sh_ridgePart [.ref a0, .int x1, .int x2] st (RI F) := by
  unfold f_Sh_ridgePart at h
  refine e_Sh_ridgePart ?_
  obtain ⟨j2, hdj2, h⟩ := jn_some h
  have hj2 : j2 = some v → V κ M_Sh_ridgePart (RI F) 29 [none, none, none, none] [] st := by
    intro h
    rw [hdj2] at h
    exact b_Sh_ridgePart_29  (k1 := lfIP h k)
  clear hdj2
  refine b_Sh_ridgePart_0  (k1 := fun e3 => ?_) (k2 := fun e3 => ?_)
  · replace h := if_t e3 h
    exact hj2  h
  · replace h := if_f e3 h
    refine b_Sh_ridgePart_11 (l_a0 := l_a0) (k1 := fun e4 => ?_) (k2 := fun e4 => ?_)
    · replace h := if_t e4 h
      exact hj2  h
    · replace h := if_f e4 h
      obtain ⟨h1, h⟩ := grd_some h
      exact b_Sh_ridgePart_20 (l_a0 := l_a0) (b1 := h1) (k2 := lfIP h k)
noncomputable def f_Sh_lengthOf (κ : Ko) (a0 : Nat) (x1 : Int32) (st : AS) : Option Int32 := bnd (f_Sh_ridgePart κ a0 x1 (3 : Int32) st) (fun v1 => bnd (f_Sh_ridgePart κ a0 x1 (2 : Int32) st) (fun v2 => some (v1 - v2)))
theorem t_Sh_lengthOf {κ : Ko} {F : Int32 → AS → Prop} {a0 : Nat} {x1 : Int32} {st : AS} {v : Int32} (l_a0 : ly κ a0 = (8, 14)) (h : f_Sh_lengthOf κ a0 x1 st = some v) (k : F v st) : C κ M_Sh_lengthOf [.ref a0, .int x1] st (RI F) := by
  unfold f_Sh_lengthOf at h
  refine e_Sh_lengthOf ?_
  obtain ⟨v1, h3, h⟩ := bnd_some h
  refine b_Sh_lengthOf_0 (l_a0 := l_a0) (k1 := t_Sh_ridgePart l_a0 h3 ?_)
  obtain ⟨v2, h4, h⟩ := bnd_some h
  refine b_Sh_lengthOf_6 (l_a0 := l_a0) (k1 := t_Sh_ridgePart l_a0 h4 ?_)
  exact b_Sh_lengthOf_12  (k1 := lfIP h k)
noncomputable def L_Sh_lengthOfRounds_5 (κ : Ko) (st : AS) : Nat → Nat → Int32 → Int32 → Int32 → Int32 → Option Int32
  | 0, _, _, _, _, _ => none
  | d + 1, a0, x1, x2, x3, x4 => if (gi st a0 12) ≤ x4 then some x3 else bnd (f_Sh_ridgePart κ a0 x4 (4 : Int32) st) (fun v1 => if (wi ((v1 : Int32).toInt64) ((x1 : Int32).toInt64) ((x2 : Int32).toInt64)) = 0 then L_Sh_lengthOfRounds_5 κ st  d a0 x1 x2 (x3 + 0) (x4 + 1) else bnd (f_Sh_lengthOf κ a0 x4 st) (fun v2 => L_Sh_lengthOfRounds_5 κ st  d a0 x1 x2 (x3 + v2) (x4 + 1)))
noncomputable def f_Sh_lengthOfRounds (κ : Ko) (a0 : Nat) (x1 : Int32) (x2 : Int32) (st : AS) : Option Int32 := L_Sh_lengthOfRounds_5 κ st  FU a0 x1 x2 (0 : Int32) (0 : Int32)
theorem l_Sh_lengthOfRounds_5 {κ : Ko} {F : Int32 → AS → Prop} {v : Int32} {st : AS} (k : F v st) : ∀ (d : Nat) (a0 : Nat) (x1 : Int32) (x2 : Int32) (x3 : Int32) (x4 : Int32), ly κ a0 = (8, 14) → L_Sh_lengthOfRounds_5 κ st  d a0 x1 x2 x3 x4 = some v → V κ M_Sh_lengthOfRounds (RI F) 5 [some (.ref a0), some (.int x1), some (.int x2), some (.int x3), some (.int x4)] [] st := by
  intro d
  induction d with
  | zero =>
    intro a0 x1 x2 x3 x4 l_a0 h
    exact nn_some h
  | succ d ih =>
    intro a0 x1 x2 x3 x4 l_a0 h
    rw [L_Sh_lengthOfRounds_5] at h
    refine b_Sh_lengthOfRounds_5 (l_a0 := l_a0) (k1 := fun e3 => ?_) (k2 := fun e3 => ?_)
    · replace h := if_t e3 h
      exact b_Sh_lengthOfRounds_51  (k1 := lfIP h k)
    · replace h := if_f e3 h
      obtain ⟨v1, h4, h⟩ := bnd_some h
      refine b_Sh_lengthOfRounds_14 (l_a0 := l_a0) (k1 := t_Sh_ridgePart l_a0 h4 ?_)
      refine b_Sh_lengthOfRounds_22  (k1 := t_X_within  rfl ?_)
      refine b_Sh_lengthOfRounds_30  (k1 := fun e5 => ?_) (k2 := fun e5 => ?_)
      · replace h := if_t e5 h
        refine b_Sh_lengthOfRounds_42  (k1 := ?_)
        exact ih _ _ _ _ _ l_a0 h
      · replace h := if_f e5 h
        obtain ⟨v2, h6, h⟩ := bnd_some h
        refine b_Sh_lengthOfRounds_33 (l_a0 := l_a0) (k1 := t_Sh_lengthOf l_a0 h6 ?_)
        refine b_Sh_lengthOfRounds_39  (k1 := ?_)
        exact ih _ _ _ _ _ l_a0 h
theorem t_Sh_lengthOfRounds {κ : Ko} {F : Int32 → AS → Prop} {a0 : Nat} {x1 : Int32} {x2 : Int32} {st : AS} {v : Int32} (l_a0 : ly κ a0 = (8, 14)) (h : f_Sh_lengthOfRounds κ a0 x1 x2 st = some v) (k : F v st) : C κ M_Sh_lengthOfRounds [.ref a0, .int x1, .int x2] st (RI F) := by
  unfold f_Sh_lengthOfRounds at h
  refine e_Sh_lengthOfRounds ?_
  refine b_Sh_lengthOfRounds_0  (k1 := ?_)
  refine l_Sh_lengthOfRounds_5 k FU _ _ _ _ _ l_a0 h
noncomputable def f_Sh_putRidge (κ : Ko) (a0 : Nat) (x1 : Int32) (x2 : Int32) (x3 : Int32) (st : AS) : Option AS := jn (some st) fun j2 => if ((x1 * 7) + x2) < 0 then j2 else if 2800 ≤ ((x1 * 7) + x2) then j2 else grd (vp_in ((x1 * 7) + x2) 2800) (some (ui st (a0 + 2) (((x1 * 7) + x2) : Int32).toNatClampNeg x3))
theorem t_Sh_putRidge {κ : Ko} {F : AS → Prop} {a0 : Nat} {x1 : Int32} {x2 : Int32} {x3 : Int32} {st : AS} {s' : AS} (l_a0 : ly κ a0 = (8, 14)) (h : f_Sh_putRidge κ a0 x1 x2 x3 st = some s') (k : F s') : C κ M_Sh_putRidge [.ref a0, .int x1, .int x2, .int x3] st (RV F) := by
  unfold f_Sh_putRidge at h
  refine e_Sh_putRidge ?_
  obtain ⟨j2, hdj2, h⟩ := jn_some h
  have hj2 : j2 = some s' → V κ M_Sh_putRidge (RV F) 31 [none, none, none, none, none] [] st := by
    intro h
    rw [hdj2] at h
    exact b_Sh_putRidge_31  (k1 := lfV h k)
  clear hdj2
  refine b_Sh_putRidge_0  (k1 := fun e3 => ?_) (k2 := fun e3 => ?_)
  · replace h := if_t e3 h
    exact hj2  h
  · replace h := if_f e3 h
    refine b_Sh_putRidge_13 (l_a0 := l_a0) (k1 := fun e4 => ?_) (k2 := fun e4 => ?_)
    · replace h := if_t e4 h
      exact hj2  h
    · replace h := if_f e4 h
      obtain ⟨h1, h⟩ := grd_some h
      exact b_Sh_putRidge_23 (l_a0 := l_a0) (b1 := h1) (k2 := lfV h k)
noncomputable def f_Sh_drawn (κ : Ko) (a0 : Nat) (st : AS) : (Int32 × AS) := (((gl (ul st a0 13 ((((gl st a0 13) * 1103515245) + 12345) - (((gl st a0 13) * 1103515245) + 12345) / 2147483648 * 2147483648)) a0 13) / 65536 : Int64).toInt32, ul st a0 13 ((((gl st a0 13) * 1103515245) + 12345) - (((gl st a0 13) * 1103515245) + 12345) / 2147483648 * 2147483648))
theorem t_Sh_drawn {κ : Ko} {F : Int32 → AS → Prop} {a0 : Nat} {st : AS} {v : Int32} {s' : AS} (l_a0 : ly κ a0 = (8, 14)) (h : f_Sh_drawn κ a0 st = (v, s')) (k : F v s') : C κ M_Sh_drawn [.ref a0] st (RI F) := by
  unfold f_Sh_drawn at h
  refine e_Sh_drawn ?_
  exact b_Sh_drawn_0 (l_a0 := l_a0) (k1 := lfIT h k)
noncomputable def f_Sh_facetPart (κ : Ko) (a0 : Nat) (x1 : Int32) (x2 : Int32) (st : AS) : Option Int32 := jn (some (0 : Int32)) fun j2 => if ((x1 * 4) + x2) < 0 then j2 else if 800 ≤ ((x1 * 4) + x2) then j2 else grd (vp_in ((x1 * 4) + x2) 800) (some (gi st (a0 + 1) (((x1 * 4) + x2) : Int32).toNatClampNeg))
theorem t_Sh_facetPart {κ : Ko} {F : Int32 → AS → Prop} {a0 : Nat} {x1 : Int32} {x2 : Int32} {st : AS} {v : Int32} (l_a0 : ly κ a0 = (8, 14)) (h : f_Sh_facetPart κ a0 x1 x2 st = some v) (k : F v st) : C κ M_Sh_facetPart [.ref a0, .int x1, .int x2] st (RI F) := by
  unfold f_Sh_facetPart at h
  refine e_Sh_facetPart ?_
  obtain ⟨j2, hdj2, h⟩ := jn_some h
  have hj2 : j2 = some v → V κ M_Sh_facetPart (RI F) 28 [none, none, none, none] [] st := by
    intro h
    rw [hdj2] at h
    exact b_Sh_facetPart_28  (k1 := lfIP h k)
  clear hdj2
  refine b_Sh_facetPart_0  (k1 := fun e3 => ?_) (k2 := fun e3 => ?_)
  · replace h := if_t e3 h
    exact hj2  h
  · replace h := if_f e3 h
    refine b_Sh_facetPart_10 (l_a0 := l_a0) (k1 := fun e4 => ?_) (k2 := fun e4 => ?_)
    · replace h := if_t e4 h
      exact hj2  h
    · replace h := if_f e4 h
      obtain ⟨h1, h⟩ := grd_some h
      exact b_Sh_facetPart_19 (l_a0 := l_a0) (b1 := h1) (k2 := lfIP h k)
noncomputable def f_Sh_longOf (κ : Ko) (a0 : Nat) (x1 : Int32) (st : AS) : Option Int32 := bnd (f_Sh_facetPart κ a0 x1 (2 : Int32) st) (fun v1 => bnd (f_Sh_facetPart κ a0 x1 (3 : Int32) st) (fun v2 => some (imax v1 v2)))
theorem t_Sh_longOf {κ : Ko} {F : Int32 → AS → Prop} {a0 : Nat} {x1 : Int32} {st : AS} {v : Int32} (l_a0 : ly κ a0 = (8, 14)) (h : f_Sh_longOf κ a0 x1 st = some v) (k : F v st) : C κ M_Sh_longOf [.ref a0, .int x1] st (RI F) := by
  unfold f_Sh_longOf at h
  refine e_Sh_longOf ?_
  obtain ⟨v1, h3, h⟩ := bnd_some h
  refine b_Sh_longOf_0 (l_a0 := l_a0) (k1 := t_Sh_facetPart l_a0 h3 ?_)
  obtain ⟨v2, h4, h⟩ := bnd_some h
  refine b_Sh_longOf_6 (l_a0 := l_a0) (k1 := t_Sh_facetPart l_a0 h4 ?_)
  refine b_Sh_longOf_12  (k1 := t_Jm_max  rfl ?_)
  exact b_Sh_longOf_15  (k1 := lfIP h k)
noncomputable def f_Sh_shortOf (κ : Ko) (a0 : Nat) (x1 : Int32) (st : AS) : Option Int32 := bnd (f_Sh_facetPart κ a0 x1 (2 : Int32) st) (fun v1 => bnd (f_Sh_facetPart κ a0 x1 (3 : Int32) st) (fun v2 => some (imin v1 v2)))
theorem t_Sh_shortOf {κ : Ko} {F : Int32 → AS → Prop} {a0 : Nat} {x1 : Int32} {st : AS} {v : Int32} (l_a0 : ly κ a0 = (8, 14)) (h : f_Sh_shortOf κ a0 x1 st = some v) (k : F v st) : C κ M_Sh_shortOf [.ref a0, .int x1] st (RI F) := by
  unfold f_Sh_shortOf at h
  refine e_Sh_shortOf ?_
  obtain ⟨v1, h3, h⟩ := bnd_some h
  refine b_Sh_shortOf_0 (l_a0 := l_a0) (k1 := t_Sh_facetPart l_a0 h3 ?_)
  obtain ⟨v2, h4, h⟩ := bnd_some h
  refine b_Sh_shortOf_6 (l_a0 := l_a0) (k1 := t_Sh_facetPart l_a0 h4 ?_)
  refine b_Sh_shortOf_12  (k1 := t_Jm_min  rfl ?_)
  exact b_Sh_shortOf_15  (k1 := lfIP h k)
noncomputable def f_Sh_areaOf (κ : Ko) (a0 : Nat) (x1 : Int32) (st : AS) : Option Int32 := bnd (f_Sh_facetPart κ a0 x1 (2 : Int32) st) (fun v1 => bnd (f_Sh_facetPart κ a0 x1 (3 : Int32) st) (fun v2 => some (v1 * v2)))
theorem t_Sh_areaOf {κ : Ko} {F : Int32 → AS → Prop} {a0 : Nat} {x1 : Int32} {st : AS} {v : Int32} (l_a0 : ly κ a0 = (8, 14)) (h : f_Sh_areaOf κ a0 x1 st = some v) (k : F v st) : C κ M_Sh_areaOf [.ref a0, .int x1] st (RI F) := by
  unfold f_Sh_areaOf at h
  refine e_Sh_areaOf ?_
  obtain ⟨v1, h3, h⟩ := bnd_some h
  refine b_Sh_areaOf_0 (l_a0 := l_a0) (k1 := t_Sh_facetPart l_a0 h3 ?_)
  obtain ⟨v2, h4, h⟩ := bnd_some h
  refine b_Sh_areaOf_6 (l_a0 := l_a0) (k1 := t_Sh_facetPart l_a0 h4 ?_)
  exact b_Sh_areaOf_12  (k1 := lfIP h k)
noncomputable def f_Sh_edgeOf (κ : Ko) (a0 : Nat) (x1 : Int32) (st : AS) : Option Int32 := bnd (f_Sh_facetPart κ a0 x1 (0 : Int32) st) (fun v1 => bnd (f_Sh_facetPart κ a0 x1 (1 : Int32) st) (fun v2 => bnd (f_Sh_facetPart κ a0 x1 (2 : Int32) st) (fun v3 => bnd (f_Sh_facetPart κ a0 x1 (3 : Int32) st) (fun v4 => some (if (v2 + v4) = (gi st a0 9) then (((if v1 = 0 then (1 : Int32) else (0 : Int32) : Int32) + (if v2 = 0 then (1 : Int32) else (0 : Int32) : Int32)) + (if (v1 + v3) = (gi st a0 8) then (1 : Int32) else (0 : Int32) : Int32)) + 1 else (((if v1 = 0 then (1 : Int32) else (0 : Int32) : Int32) + (if v2 = 0 then (1 : Int32) else (0 : Int32) : Int32)) + (if (v1 + v3) = (gi st a0 8) then (1 : Int32) else (0 : Int32) : Int32)) + 0 : Int32)))))
theorem t_Sh_edgeOf {κ : Ko} {F : Int32 → AS → Prop} {a0 : Nat} {x1 : Int32} {st : AS} {v : Int32} (l_a0 : ly κ a0 = (8, 14)) (h : f_Sh_edgeOf κ a0 x1 st = some v) (k : F v st) : C κ M_Sh_edgeOf [.ref a0, .int x1] st (RI F) := by
  unfold f_Sh_edgeOf at h
  refine e_Sh_edgeOf ?_
  obtain ⟨v1, h5, h⟩ := bnd_some h
  refine b_Sh_edgeOf_0 (l_a0 := l_a0) (k1 := t_Sh_facetPart l_a0 h5 ?_)
  obtain ⟨v2, h6, h⟩ := bnd_some h
  refine b_Sh_edgeOf_6 (l_a0 := l_a0) (k1 := t_Sh_facetPart l_a0 h6 ?_)
  have K8 : V κ M_Sh_edgeOf (RI F) 23 [some (.ref a0), some (.int x1), some (.int v1), some (.int v2), none] [.int (if v1 = 0 then (1 : Int32) else (0 : Int32) : Int32)] st := by
    have K10 : V κ M_Sh_edgeOf (RI F) 36 [some (.ref a0), some (.int x1), some (.int v1), some (.int v2), none] [.int (if v2 = 0 then (1 : Int32) else (0 : Int32) : Int32), .int (if v1 = 0 then (1 : Int32) else (0 : Int32) : Int32)] st := by
      obtain ⟨v3, h11, h⟩ := bnd_some h
      refine b_Sh_edgeOf_36 (l_a0 := l_a0) (k1 := t_Sh_facetPart l_a0 h11 ?_)
      have K13 : V κ M_Sh_edgeOf (RI F) 61 [some (.ref a0), some (.int x1), none, some (.int v2), none] [.int (if (v1 + v3) = (gi st a0 8) then (1 : Int32) else (0 : Int32) : Int32), .int ((if v1 = 0 then (1 : Int32) else (0 : Int32) : Int32) + (if v2 = 0 then (1 : Int32) else (0 : Int32) : Int32))] st := by
        obtain ⟨v4, h14, h⟩ := bnd_some h
        refine b_Sh_edgeOf_61 (l_a0 := l_a0) (k1 := t_Sh_facetPart l_a0 h14 ?_)
        have K16 : (RI F) (some (.int (if (v2 + v4) = (gi st a0 9) then (((if v1 = 0 then (1 : Int32) else (0 : Int32) : Int32) + (if v2 = 0 then (1 : Int32) else (0 : Int32) : Int32)) + (if (v1 + v3) = (gi st a0 8) then (1 : Int32) else (0 : Int32) : Int32)) + 1 else (((if v1 = 0 then (1 : Int32) else (0 : Int32) : Int32) + (if v2 = 0 then (1 : Int32) else (0 : Int32) : Int32)) + (if (v1 + v3) = (gi st a0 8) then (1 : Int32) else (0 : Int32) : Int32)) + 0 : Int32))) st := lfIP h k
        refine b_Sh_edgeOf_73 (l_a0 := l_a0) (k1 := fun e17 => ?_) (k2 := fun e17 => ?_)
        · exact b_Sh_edgeOf_85  (k1 := (ite_f (P := fun z => (RI F) (some (.int z)) st) e17 K16))
        · exact b_Sh_edgeOf_81  (k1 := (ite_t (P := fun z => (RI F) (some (.int z)) st) e17 K16))
      refine b_Sh_edgeOf_48 (l_a0 := l_a0) (k1 := fun e18 => ?_) (k2 := fun e18 => ?_)
      · refine b_Sh_edgeOf_60  (k1 := ?_)
        exact (ite_f (P := fun z => V κ M_Sh_edgeOf (RI F) 61 [some (.ref a0), some (.int x1), none, some (.int v2), none] [.int z, .int ((if v1 = 0 then (1 : Int32) else (0 : Int32) : Int32) + (if v2 = 0 then (1 : Int32) else (0 : Int32) : Int32))] st) e18 K13)
      · refine b_Sh_edgeOf_56  (k1 := ?_)
        exact (ite_t (P := fun z => V κ M_Sh_edgeOf (RI F) 61 [some (.ref a0), some (.int x1), none, some (.int v2), none] [.int z, .int ((if v1 = 0 then (1 : Int32) else (0 : Int32) : Int32) + (if v2 = 0 then (1 : Int32) else (0 : Int32) : Int32))] st) e18 K13)
    refine b_Sh_edgeOf_23  (k1 := fun e19 => ?_) (k2 := fun e19 => ?_)
    · refine b_Sh_edgeOf_35  (k1 := ?_)
      exact (ite_f (P := fun z => V κ M_Sh_edgeOf (RI F) 36 [some (.ref a0), some (.int x1), some (.int v1), some (.int v2), none] [.int z, .int (if v1 = 0 then (1 : Int32) else (0 : Int32) : Int32)] st) e19 K10)
    · refine b_Sh_edgeOf_31  (k1 := ?_)
      exact (ite_t (P := fun z => V κ M_Sh_edgeOf (RI F) 36 [some (.ref a0), some (.int x1), some (.int v1), some (.int v2), none] [.int z, .int (if v1 = 0 then (1 : Int32) else (0 : Int32) : Int32)] st) e19 K10)
  refine b_Sh_edgeOf_13  (k1 := fun e20 => ?_) (k2 := fun e20 => ?_)
  · refine b_Sh_edgeOf_22  (k1 := ?_)
    exact (ite_f (P := fun z => V κ M_Sh_edgeOf (RI F) 23 [some (.ref a0), some (.int x1), some (.int v1), some (.int v2), none] [.int z] st) e20 K8)
  · refine b_Sh_edgeOf_18  (k1 := ?_)
    exact (ite_t (P := fun z => V κ M_Sh_edgeOf (RI F) 23 [some (.ref a0), some (.int x1), some (.int v1), some (.int v2), none] [.int z] st) e20 K8)
noncomputable def f_Sh_wayOf (κ : Ko) (a0 : Nat) (x1 : Int32) (st : AS) : Option Int32 := bnd (f_Sh_facetPart κ a0 x1 (2 : Int32) st) (fun v1 => bnd (f_Sh_facetPart κ a0 x1 (3 : Int32) st) (fun v2 => some (if v1 < v2 then (1 : Int32) else (0 : Int32) : Int32)))
theorem t_Sh_wayOf {κ : Ko} {F : Int32 → AS → Prop} {a0 : Nat} {x1 : Int32} {st : AS} {v : Int32} (l_a0 : ly κ a0 = (8, 14)) (h : f_Sh_wayOf κ a0 x1 st = some v) (k : F v st) : C κ M_Sh_wayOf [.ref a0, .int x1] st (RI F) := by
  unfold f_Sh_wayOf at h
  refine e_Sh_wayOf ?_
  obtain ⟨v1, h3, h⟩ := bnd_some h
  refine b_Sh_wayOf_0 (l_a0 := l_a0) (k1 := t_Sh_facetPart l_a0 h3 ?_)
  obtain ⟨v2, h4, h⟩ := bnd_some h
  refine b_Sh_wayOf_6 (l_a0 := l_a0) (k1 := t_Sh_facetPart l_a0 h4 ?_)
  have K6 : (RI F) (some (.int (if v1 < v2 then (1 : Int32) else (0 : Int32) : Int32))) st := lfIP h k
  refine b_Sh_wayOf_12  (k1 := fun e7 => ?_) (k2 := fun e7 => ?_)
  · exact b_Sh_wayOf_19  (k1 := (ite_t (P := fun z => (RI F) (some (.int z)) st) e7 K6))
  · exact b_Sh_wayOf_15  (k1 := (ite_f (P := fun z => (RI F) (some (.int z)) st) e7 K6))
noncomputable def f_Sh_fillWords (κ : Ko) (a0 : Nat) (x1 : Int32) (x2 : Int32) (x3 : Int32) (x4 : Int32) (st : AS) : Option AS := bnd (f_Sh_longOf κ a0 x1 st) (fun v1 => bnd (f_Sh_shortOf κ a0 x1 (gputL st (a0 + 4) 8 (0 : Int32) ((v1 : Int32).toInt64))) (fun v2 => bnd (f_Sh_areaOf κ a0 x1 (gputL (gputL st (a0 + 4) 8 (0 : Int32) ((v1 : Int32).toInt64)) (a0 + 4) 8 (1 : Int32) ((v2 : Int32).toInt64))) (fun v3 => bnd (f_Sh_edgeOf κ a0 x1 (gputL (gputL (gputL (gputL (gputL st (a0 + 4) 8 (0 : Int32) ((v1 : Int32).toInt64)) (a0 + 4) 8 (1 : Int32) ((v2 : Int32).toInt64)) (a0 + 4) 8 (2 : Int32) ((v3 : Int32).toInt64)) (a0 + 4) 8 (3 : Int32) ((x3 : Int32).toInt64)) (a0 + 4) 8 (4 : Int32) ((x2 : Int32).toInt64))) (fun v4 => bnd (f_Sh_wayOf κ a0 x1 (gputL (gputL (gputL (gputL (gputL (gputL st (a0 + 4) 8 (0 : Int32) ((v1 : Int32).toInt64)) (a0 + 4) 8 (1 : Int32) ((v2 : Int32).toInt64)) (a0 + 4) 8 (2 : Int32) ((v3 : Int32).toInt64)) (a0 + 4) 8 (3 : Int32) ((x3 : Int32).toInt64)) (a0 + 4) 8 (4 : Int32) ((x2 : Int32).toInt64)) (a0 + 4) 8 (5 : Int32) ((v4 : Int32).toInt64))) (fun v5 => some (gputL (gputL (gputL (gputL (gputL (gputL (gputL (gputL st (a0 + 4) 8 (0 : Int32) ((v1 : Int32).toInt64)) (a0 + 4) 8 (1 : Int32) ((v2 : Int32).toInt64)) (a0 + 4) 8 (2 : Int32) ((v3 : Int32).toInt64)) (a0 + 4) 8 (3 : Int32) ((x3 : Int32).toInt64)) (a0 + 4) 8 (4 : Int32) ((x2 : Int32).toInt64)) (a0 + 4) 8 (5 : Int32) ((v4 : Int32).toInt64)) (a0 + 4) 8 (6 : Int32) ((v5 : Int32).toInt64)) (a0 + 4) 8 (7 : Int32) ((x4 : Int32).toInt64)))))))
theorem t_Sh_fillWords {κ : Ko} {F : AS → Prop} {a0 : Nat} {x1 : Int32} {x2 : Int32} {x3 : Int32} {x4 : Int32} {st : AS} {s' : AS} (l_a0 : ly κ a0 = (8, 14)) (h : f_Sh_fillWords κ a0 x1 x2 x3 x4 st = some s') (k : F s') : C κ M_Sh_fillWords [.ref a0, .int x1, .int x2, .int x3, .int x4] st (RV F) := by
  unfold f_Sh_fillWords at h
  refine e_Sh_fillWords ?_
  obtain ⟨v1, h6, h⟩ := bnd_some h
  refine b_Sh_fillWords_0 (l_a0 := l_a0) (k1 := t_Sh_longOf l_a0 h6 ?_)
  refine b_Sh_fillWords_10  (k1 := t_X_putL (co8 4 51 8 rfl l_a0) rfl ?_)
  obtain ⟨v2, h7, h⟩ := bnd_some h
  refine b_Sh_fillWords_14 (l_a0 := l_a0) (k1 := t_Sh_shortOf l_a0 h7 ?_)
  refine b_Sh_fillWords_24  (k1 := t_X_putL (co8 4 51 8 rfl l_a0) rfl ?_)
  obtain ⟨v3, h8, h⟩ := bnd_some h
  refine b_Sh_fillWords_28 (l_a0 := l_a0) (k1 := t_Sh_areaOf l_a0 h8 ?_)
  refine b_Sh_fillWords_38  (k1 := t_X_putL (co8 4 51 8 rfl l_a0) rfl ?_)
  refine b_Sh_fillWords_42 (l_a0 := l_a0) (k1 := t_X_putL (co8 4 51 8 rfl l_a0) rfl ?_)
  refine b_Sh_fillWords_52 (l_a0 := l_a0) (k1 := t_X_putL (co8 4 51 8 rfl l_a0) rfl ?_)
  obtain ⟨v4, h9, h⟩ := bnd_some h
  refine b_Sh_fillWords_62 (l_a0 := l_a0) (k1 := t_Sh_edgeOf l_a0 h9 ?_)
  refine b_Sh_fillWords_72  (k1 := t_X_putL (co8 4 51 8 rfl l_a0) rfl ?_)
  obtain ⟨v5, h10, h⟩ := bnd_some h
  refine b_Sh_fillWords_76 (l_a0 := l_a0) (k1 := t_Sh_wayOf l_a0 h10 ?_)
  refine b_Sh_fillWords_87  (k1 := t_X_putL (co8 4 51 8 rfl l_a0) rfl ?_)
  refine b_Sh_fillWords_91 (l_a0 := l_a0) (k1 := t_X_putL (co8 4 51 8 rfl l_a0) rfl ?_)
  exact b_Sh_fillWords_103  (k1 := lfV h k)
noncomputable def f_Cd_joined (κ : Ko) (x0 : Int32) (y1 : Int64) (y3 : Int64) (st : AS) : Option Int64 := jn (some (0 : Int64)) fun j2 => if x0 = 2 then some (y1 + y3) else if x0 = 3 then some (y1 - y3) else if x0 = 4 then some (y1 * y3) else if x0 = 5 then if y3 = 0 then some (0 : Int64) else grd (¬ y3 = 0) (some (y1 / y3)) else if x0 = 6 then some (if y3 ≤ y1 then (0 : Int64) else (1 : Int64) : Int64) else if x0 = 7 then some (if y3 < y1 then (0 : Int64) else (1 : Int64) : Int64) else if x0 = 8 then some (if y1 = y3 then (1 : Int64) else (0 : Int64) : Int64) else if x0 = 9 then some (if y1 < y3 then (0 : Int64) else (1 : Int64) : Int64) else if x0 = 10 then some (if y1 ≤ y3 then (0 : Int64) else (1 : Int64) : Int64) else if x0 = 11 then j2 else if x0 = 12 then some (y1 &&& y3) else if x0 = 13 then some (y1 ||| y3) else j2
theorem t_Cd_joined {κ : Ko} {F : Int64 → AS → Prop} {x0 : Int32} {y1 : Int64} {y3 : Int64} {st : AS} {v : Int64} (h : f_Cd_joined κ x0 y1 y3 st = some v) (k : F v st) : C κ M_Cd_joined [.int x0, .long y1, .long y3] st (RL F) := by
  unfold f_Cd_joined at h
  refine e_Cd_joined ?_
  obtain ⟨j2, hdj2, h⟩ := jn_some h
  have hj2 : j2 = some v → V κ M_Cd_joined (RL F) 158 [none, none, none, none, none] [] st := by
    intro h
    rw [hdj2] at h
    exact b_Cd_joined_158  (k1 := lfLP h k)
  clear hdj2
  refine b_Cd_joined_0  (k1 := fun e3 => ?_) (k2 := fun e3 => ?_) (k3 := fun e3 => ?_) (k4 := fun e3 => ?_) (k5 := fun e3 => ?_) (k6 := fun e3 => ?_) (k7 := fun e3 => ?_) (k8 := fun e3 => ?_) (k9 := fun e3 => ?_) (k10 := fun e3 => ?_) (k11 := fun e3 => ?_) (k12 := fun e3 => ?_) (k13 := fun e3 => ?_)
  · replace h := if_t e3 h
    exact b_Cd_joined_64  (k1 := lfLP h k)
  · replace h := if_f (fun z => by rw [z] at e3; exact absurd e3 (by decide)) h
    replace h := if_t e3 h
    exact b_Cd_joined_68  (k1 := lfLP h k)
  · replace h := if_f (fun z => by rw [z] at e3; exact absurd e3 (by decide)) h
    replace h := if_f (fun z => by rw [z] at e3; exact absurd e3 (by decide)) h
    replace h := if_t e3 h
    exact b_Cd_joined_72  (k1 := lfLP h k)
  · replace h := if_f (fun z => by rw [z] at e3; exact absurd e3 (by decide)) h
    replace h := if_f (fun z => by rw [z] at e3; exact absurd e3 (by decide)) h
    replace h := if_f (fun z => by rw [z] at e3; exact absurd e3 (by decide)) h
    replace h := if_t e3 h
    refine b_Cd_joined_76  (k1 := fun e4 => ?_) (k2 := fun e4 => ?_)
    · replace h := if_f e4 h
      obtain ⟨h1, h⟩ := grd_some h
      exact b_Cd_joined_86 (z1 := h1) (k2 := lfLP h k)
    · replace h := if_t e4 h
      exact b_Cd_joined_82  (k1 := lfLP h k)
  · replace h := if_f (fun z => by rw [z] at e3; exact absurd e3 (by decide)) h
    replace h := if_f (fun z => by rw [z] at e3; exact absurd e3 (by decide)) h
    replace h := if_f (fun z => by rw [z] at e3; exact absurd e3 (by decide)) h
    replace h := if_f (fun z => by rw [z] at e3; exact absurd e3 (by decide)) h
    replace h := if_t e3 h
    have K6 : (RL F) (some (.long (if y3 ≤ y1 then (0 : Int64) else (1 : Int64) : Int64))) st := lfLP h k
    refine b_Cd_joined_90  (k1 := fun e7 => ?_) (k2 := fun e7 => ?_)
    · exact b_Cd_joined_100  (k1 := (ite_t (P := fun z => (RL F) (some (.long z)) st) e7 K6))
    · exact b_Cd_joined_96  (k1 := (ite_f (P := fun z => (RL F) (some (.long z)) st) e7 K6))
  · replace h := if_f (fun z => by rw [z] at e3; exact absurd e3 (by decide)) h
    replace h := if_f (fun z => by rw [z] at e3; exact absurd e3 (by decide)) h
    replace h := if_f (fun z => by rw [z] at e3; exact absurd e3 (by decide)) h
    replace h := if_f (fun z => by rw [z] at e3; exact absurd e3 (by decide)) h
    replace h := if_f (fun z => by rw [z] at e3; exact absurd e3 (by decide)) h
    replace h := if_t e3 h
    have K9 : (RL F) (some (.long (if y3 < y1 then (0 : Int64) else (1 : Int64) : Int64))) st := lfLP h k
    refine b_Cd_joined_102  (k1 := fun e10 => ?_) (k2 := fun e10 => ?_)
    · exact b_Cd_joined_112  (k1 := (ite_t (P := fun z => (RL F) (some (.long z)) st) e10 K9))
    · exact b_Cd_joined_108  (k1 := (ite_f (P := fun z => (RL F) (some (.long z)) st) e10 K9))
  · replace h := if_f (fun z => by rw [z] at e3; exact absurd e3 (by decide)) h
    replace h := if_f (fun z => by rw [z] at e3; exact absurd e3 (by decide)) h
    replace h := if_f (fun z => by rw [z] at e3; exact absurd e3 (by decide)) h
    replace h := if_f (fun z => by rw [z] at e3; exact absurd e3 (by decide)) h
    replace h := if_f (fun z => by rw [z] at e3; exact absurd e3 (by decide)) h
    replace h := if_f (fun z => by rw [z] at e3; exact absurd e3 (by decide)) h
    replace h := if_t e3 h
    have K12 : (RL F) (some (.long (if y1 = y3 then (1 : Int64) else (0 : Int64) : Int64))) st := lfLP h k
    refine b_Cd_joined_114  (k1 := fun e13 => ?_) (k2 := fun e13 => ?_)
    · exact b_Cd_joined_124  (k1 := (ite_f (P := fun z => (RL F) (some (.long z)) st) e13 K12))
    · exact b_Cd_joined_120  (k1 := (ite_t (P := fun z => (RL F) (some (.long z)) st) e13 K12))
  · replace h := if_f (fun z => by rw [z] at e3; exact absurd e3 (by decide)) h
    replace h := if_f (fun z => by rw [z] at e3; exact absurd e3 (by decide)) h
    replace h := if_f (fun z => by rw [z] at e3; exact absurd e3 (by decide)) h
    replace h := if_f (fun z => by rw [z] at e3; exact absurd e3 (by decide)) h
    replace h := if_f (fun z => by rw [z] at e3; exact absurd e3 (by decide)) h
    replace h := if_f (fun z => by rw [z] at e3; exact absurd e3 (by decide)) h
    replace h := if_f (fun z => by rw [z] at e3; exact absurd e3 (by decide)) h
    replace h := if_t e3 h
    have K15 : (RL F) (some (.long (if y1 < y3 then (0 : Int64) else (1 : Int64) : Int64))) st := lfLP h k
    refine b_Cd_joined_126  (k1 := fun e16 => ?_) (k2 := fun e16 => ?_)
    · exact b_Cd_joined_136  (k1 := (ite_t (P := fun z => (RL F) (some (.long z)) st) e16 K15))
    · exact b_Cd_joined_132  (k1 := (ite_f (P := fun z => (RL F) (some (.long z)) st) e16 K15))
  · replace h := if_f (fun z => by rw [z] at e3; exact absurd e3 (by decide)) h
    replace h := if_f (fun z => by rw [z] at e3; exact absurd e3 (by decide)) h
    replace h := if_f (fun z => by rw [z] at e3; exact absurd e3 (by decide)) h
    replace h := if_f (fun z => by rw [z] at e3; exact absurd e3 (by decide)) h
    replace h := if_f (fun z => by rw [z] at e3; exact absurd e3 (by decide)) h
    replace h := if_f (fun z => by rw [z] at e3; exact absurd e3 (by decide)) h
    replace h := if_f (fun z => by rw [z] at e3; exact absurd e3 (by decide)) h
    replace h := if_f (fun z => by rw [z] at e3; exact absurd e3 (by decide)) h
    replace h := if_t e3 h
    have K18 : (RL F) (some (.long (if y1 ≤ y3 then (0 : Int64) else (1 : Int64) : Int64))) st := lfLP h k
    refine b_Cd_joined_138  (k1 := fun e19 => ?_) (k2 := fun e19 => ?_)
    · exact b_Cd_joined_148  (k1 := (ite_t (P := fun z => (RL F) (some (.long z)) st) e19 K18))
    · exact b_Cd_joined_144  (k1 := (ite_f (P := fun z => (RL F) (some (.long z)) st) e19 K18))
  · replace h := if_f (fun z => by rw [z] at e3; exact absurd e3 (by decide)) h
    replace h := if_f (fun z => by rw [z] at e3; exact absurd e3 (by decide)) h
    replace h := if_f (fun z => by rw [z] at e3; exact absurd e3 (by decide)) h
    replace h := if_f (fun z => by rw [z] at e3; exact absurd e3 (by decide)) h
    replace h := if_f (fun z => by rw [z] at e3; exact absurd e3 (by decide)) h
    replace h := if_f (fun z => by rw [z] at e3; exact absurd e3 (by decide)) h
    replace h := if_f (fun z => by rw [z] at e3; exact absurd e3 (by decide)) h
    replace h := if_f (fun z => by rw [z] at e3; exact absurd e3 (by decide)) h
    replace h := if_f (fun z => by rw [z] at e3; exact absurd e3 (by decide)) h
    replace h := if_t e3 h
    exact hj2  h
  · replace h := if_f (fun z => by rw [z] at e3; exact absurd e3 (by decide)) h
    replace h := if_f (fun z => by rw [z] at e3; exact absurd e3 (by decide)) h
    replace h := if_f (fun z => by rw [z] at e3; exact absurd e3 (by decide)) h
    replace h := if_f (fun z => by rw [z] at e3; exact absurd e3 (by decide)) h
    replace h := if_f (fun z => by rw [z] at e3; exact absurd e3 (by decide)) h
    replace h := if_f (fun z => by rw [z] at e3; exact absurd e3 (by decide)) h
    replace h := if_f (fun z => by rw [z] at e3; exact absurd e3 (by decide)) h
    replace h := if_f (fun z => by rw [z] at e3; exact absurd e3 (by decide)) h
    replace h := if_f (fun z => by rw [z] at e3; exact absurd e3 (by decide)) h
    replace h := if_f (fun z => by rw [z] at e3; exact absurd e3 (by decide)) h
    replace h := if_t e3 h
    exact b_Cd_joined_150  (k1 := lfLP h k)
  · replace h := if_f (fun z => by rw [z] at e3; exact absurd e3 (by decide)) h
    replace h := if_f (fun z => by rw [z] at e3; exact absurd e3 (by decide)) h
    replace h := if_f (fun z => by rw [z] at e3; exact absurd e3 (by decide)) h
    replace h := if_f (fun z => by rw [z] at e3; exact absurd e3 (by decide)) h
    replace h := if_f (fun z => by rw [z] at e3; exact absurd e3 (by decide)) h
    replace h := if_f (fun z => by rw [z] at e3; exact absurd e3 (by decide)) h
    replace h := if_f (fun z => by rw [z] at e3; exact absurd e3 (by decide)) h
    replace h := if_f (fun z => by rw [z] at e3; exact absurd e3 (by decide)) h
    replace h := if_f (fun z => by rw [z] at e3; exact absurd e3 (by decide)) h
    replace h := if_f (fun z => by rw [z] at e3; exact absurd e3 (by decide)) h
    replace h := if_f (fun z => by rw [z] at e3; exact absurd e3 (by decide)) h
    replace h := if_t e3 h
    exact b_Cd_joined_154  (k1 := lfLP h k)
  · replace h := if_f (fun z => by rw [z] at e3; exact absurd e3 (by decide)) h
    replace h := if_f (fun z => by rw [z] at e3; exact absurd e3 (by decide)) h
    replace h := if_f (fun z => by rw [z] at e3; exact absurd e3 (by decide)) h
    replace h := if_f (fun z => by rw [z] at e3; exact absurd e3 (by decide)) h
    replace h := if_f (fun z => by rw [z] at e3; exact absurd e3 (by decide)) h
    replace h := if_f (fun z => by rw [z] at e3; exact absurd e3 (by decide)) h
    replace h := if_f (fun z => by rw [z] at e3; exact absurd e3 (by decide)) h
    replace h := if_f (fun z => by rw [z] at e3; exact absurd e3 (by decide)) h
    replace h := if_f (fun z => by rw [z] at e3; exact absurd e3 (by decide)) h
    replace h := if_f (fun z => by rw [z] at e3; exact absurd e3 (by decide)) h
    replace h := if_f (fun z => by rw [z] at e3; exact absurd e3 (by decide)) h
    replace h := if_f (fun z => by rw [z] at e3; exact absurd e3 (by decide)) h
    exact hj2  h
noncomputable def L_Cd_valueOf_6 (κ : Ko) (k_168 : Nat → Int32 → AS → Option (Int64 × AS)) : Nat → Nat → Int32 → Nat → Nat → Int32 → Int32 → AS → Option (Int64 × AS)
  | 0, _, _, _, _, _, _, _ => none
  | d + 1, a0, x2, a3, n3, x4, x5, st => if x2 ≤ x5 then k_168 a0 x4 st else if (gat (gi st (a0 + 1)) 400 x5) = 0 then L_Cd_valueOf_6 κ k_168 d a0 x2 a3 n3 (x4 + 1) (x5 + 1) (gputL st (a0 + 3) 64 x4 (((gat (gi st (a0 + 2)) 400 x5) : Int32).toInt64)) else if (gat (gi st (a0 + 1)) 400 x5) = 1 then L_Cd_valueOf_6 κ k_168 d a0 x2 a3 n3 (x4 + 1) (x5 + 1) (gputL st (a0 + 3) 64 x4 (gatL (gl st a3) n3 (gat (gi st (a0 + 2)) 400 x5))) else if (gat (gi st (a0 + 1)) 400 x5) = 11 then L_Cd_valueOf_6 κ k_168 d a0 x2 a3 n3 x4 (x5 + 1) (gputL st (a0 + 3) 64 (x4 - 1) ((1 : Int64) - (gatL (gl st (a0 + 3)) 64 (x4 - 1)))) else bnd (f_Cd_joined κ (gat (gi st (a0 + 1)) 400 x5) (gatL (gl st (a0 + 3)) 64 (x4 - 2)) (gatL (gl st (a0 + 3)) 64 (x4 - 1)) st) (fun v1 => L_Cd_valueOf_6 κ k_168 d a0 x2 a3 n3 (x4 + (-1)) (x5 + 1) (gputL st (a0 + 3) 64 (x4 - 2) v1))
noncomputable def f_Cd_valueOf (κ : Ko) (a0 : Nat) (x1 : Int32) (x2 : Int32) (a3 : Nat) (n3 : Nat) (st : AS) : Option (Int64 × AS) := L_Cd_valueOf_6 κ (fun (v7 : Nat) (v9 : Int32) (s10 : AS) => some ((gatL (gl s10 (v7 + 3)) 64 (v9 - 1)), s10)) FU a0 x2 a3 n3 (0 : Int32) x1 st
theorem l_Cd_valueOf_6 {κ : Ko} {F : Int64 → AS → Prop} {v : Int64} {s' : AS} (k : F v s') {k_168 : Nat → Int32 → AS → Option (Int64 × AS)} (hk_168 : ∀ (a0 : Nat) (x4 : Int32) (st : AS), ly κ a0 = (0, 4) → k_168 a0 x4 st = some (v, s') → V κ M_Cd_valueOf (RL F) 168 [some (.ref a0), none, none, none, some (.int x4), none, none] [] st) : ∀ (d : Nat) (a0 : Nat) (x2 : Int32) (a3 n3 : Nat) (x4 : Int32) (x5 : Int32) (st : AS), ly κ a0 = (0, 4) → ly κ a3 = (51, n3) → L_Cd_valueOf_6 κ k_168 d a0 x2 a3 n3 x4 x5 st = some (v, s') → V κ M_Cd_valueOf (RL F) 6 [some (.ref a0), none, some (.int x2), some (.ref a3), some (.int x4), some (.int x5), none] [] st := by
  intro d
  induction d with
  | zero =>
    intro a0 x2 a3 n3 x4 x5 st l_a0 l_a3 h
    exact nn_some h
  | succ d ih =>
    intro a0 x2 a3 n3 x4 x5 st l_a0 l_a3 h
    rw [L_Cd_valueOf_6] at h
    refine b_Cd_valueOf_6  (k1 := fun e2 => ?_) (k2 := fun e2 => ?_)
    · replace h := if_t e2 h
      exact hk_168 _ _ _ l_a0 h
    · replace h := if_f e2 h
      refine b_Cd_valueOf_12 (l_a0 := l_a0) (k1 := t_X_at (co0 1 50 400 rfl l_a0) rfl ?_)
      refine b_Cd_valueOf_21  (k1 := fun e3 => ?_) (k2 := fun e3 => ?_)
      · replace h := if_f e3 h
        refine b_Cd_valueOf_53  (k1 := fun e4 => ?_) (k2 := fun e4 => ?_)
        · replace h := if_f e4 h
          refine b_Cd_valueOf_87  (k1 := fun e5 => ?_) (k2 := fun e5 => ?_)
          · replace h := if_f e5 h
            refine b_Cd_valueOf_121 (l_a0 := l_a0) (k1 := t_X_atL (co0 3 51 64 rfl l_a0) rfl ?_)
            refine b_Cd_valueOf_142 (l_a0 := l_a0) (k1 := t_X_atL (co0 3 51 64 rfl l_a0) rfl ?_)
            obtain ⟨v1, h6, h⟩ := bnd_some h
            refine b_Cd_valueOf_153  (k1 := t_Cd_joined  h6 ?_)
            refine b_Cd_valueOf_156  (k1 := t_X_putL (co0 3 51 64 rfl l_a0) rfl ?_)
            refine b_Cd_valueOf_159  (k1 := ?_)
            exact ih _ _ _ _ _ _ _ l_a0 l_a3 h
          · replace h := if_t e5 h
            refine b_Cd_valueOf_94 (l_a0 := l_a0) (k1 := t_X_atL (co0 3 51 64 rfl l_a0) rfl ?_)
            refine b_Cd_valueOf_114  (k1 := t_X_putL (co0 3 51 64 rfl l_a0) rfl ?_)
            refine b_Cd_valueOf_118  (k1 := ?_)
            exact ih _ _ _ _ _ _ _ l_a0 l_a3 h
        · replace h := if_t e4 h
          refine b_Cd_valueOf_59 (l_a0 := l_a0) (k1 := t_X_at (co0 2 50 400 rfl l_a0) rfl ?_)
          refine b_Cd_valueOf_75  (k1 := t_X_atL l_a3 rfl ?_)
          refine b_Cd_valueOf_78  (k1 := t_X_putL (co0 3 51 64 rfl l_a0) rfl ?_)
          refine b_Cd_valueOf_81  (k1 := ?_)
          exact ih _ _ _ _ _ _ _ l_a0 l_a3 h
      · replace h := if_t e3 h
        refine b_Cd_valueOf_28 (l_a0 := l_a0) (k1 := t_X_at (co0 2 50 400 rfl l_a0) rfl ?_)
        refine b_Cd_valueOf_43  (k1 := t_X_putL (co0 3 51 64 rfl l_a0) rfl ?_)
        refine b_Cd_valueOf_47  (k1 := ?_)
        exact ih _ _ _ _ _ _ _ l_a0 l_a3 h
theorem t_Cd_valueOf {κ : Ko} {F : Int64 → AS → Prop} {a0 : Nat} {x1 : Int32} {x2 : Int32} {a3 : Nat} {n3 : Nat} {st : AS} {v : Int64} {s' : AS} (l_a0 : ly κ a0 = (0, 4)) (l_a3 : ly κ a3 = (51, n3)) (h : f_Cd_valueOf κ a0 x1 x2 a3 n3 st = some (v, s')) (k : F v s') : C κ M_Cd_valueOf [.ref a0, .int x1, .int x2, .ref a3] st (RL F) := by
  unfold f_Cd_valueOf at h
  refine e_Cd_valueOf ?_
  refine b_Cd_valueOf_0  (k1 := ?_)
  refine l_Cd_valueOf_6 k ?_ FU _ _ _ _ _ _ _ l_a0 l_a3 h
  · intro v7 v9 s10 l8 h
    refine b_Cd_valueOf_168 (l_a0 := l8) (k1 := t_X_atL (co0 3 51 64 rfl l8) rfl ?_)
    exact b_Cd_valueOf_179  (k1 := lfL h k)
noncomputable def L_Lw_tells_3 (κ : Ko) (k_71 : Nat → Nat → Nat → Int32 → Int32 → Int32 → Int32 → AS → Option (Int32 × AS)) : Nat → Nat → Int32 → Nat → Nat → Int32 → Int32 → Int32 → Int32 → AS → Option (Int32 × AS)
  | 0, _, _, _, _, _, _, _, _, _ => none
  | d + 1, a0, x1, a2, n2, x3, x4, x5, x6, st => if (gi st a0 5) ≤ x6 then some (x5, st) else jn (fun (s4 : AS) => L_Lw_tells_3 κ k_71 d a0 x1 a2 n2 x3 x4 x5 (x6 + 1) s4) fun j3 => if (gat (gi st (a0 + 5)) 12 x6) = x1 then if (gat (gi st (a0 + 7)) 12 x6) = (gat (gi st (a0 + 8)) 12 x6) then k_71 a0 a2 n2 x3 x4 x6 (gat (gi st (a0 + 7)) 12 x6) st else bnd2 (f_Cd_valueOf κ (a0 + 1) (gat (gi st (a0 + 7)) 12 x6) (gat (gi st (a0 + 8)) 12 x6) a2 n2 st) (fun v1 s2 => if v1 = 0 then j3 s2 else k_71 a0 a2 n2 x3 x4 x6 (gat (gi st (a0 + 7)) 12 x6) s2) else j3 st
noncomputable def f_Lw_tells (κ : Ko) (a0 : Nat) (x1 : Int32) (a2 : Nat) (n2 : Nat) (x3 : Int32) (x4 : Int32) (x5 : Int32) (st : AS) : Option (Int32 × AS) := L_Lw_tells_3 κ (fun (v10 : Nat) (v12 n14 : Nat) (v15 : Int32) (v16 : Int32) (v17 : Int32) (v18 : Int32) (s19 : AS) => bnd2 (f_Cd_valueOf κ (v10 + 1) (gat (gi s19 (v10 + 6)) 12 v17) v18 v12 n14 s19) (fun v20 s21 => some (((lmax ((v15 : Int32).toInt64) (lmin ((v16 : Int32).toInt64) v20)) : Int64).toInt32, s21))) FU a0 x1 a2 n2 x3 x4 x5 (0 : Int32) st
theorem l_Lw_tells_3 {κ : Ko} {F : Int32 → AS → Prop} {v : Int32} {s' : AS} (k : F v s') {k_71 : Nat → Nat → Nat → Int32 → Int32 → Int32 → Int32 → AS → Option (Int32 × AS)} (hk_71 : ∀ (a0 : Nat) (a2 n2 : Nat) (x3 : Int32) (x4 : Int32) (x6 : Int32) (x7 : Int32) (st : AS), ly κ a0 = (3, 7) → ly κ a2 = (51, n2) → k_71 a0 a2 n2 x3 x4 x6 x7 st = some (v, s') → V κ M_Lw_tells (RI F) 71 [some (.ref a0), none, some (.ref a2), some (.int x3), some (.int x4), none, some (.int x6), some (.int x7), none] [] st) : ∀ (d : Nat) (a0 : Nat) (x1 : Int32) (a2 n2 : Nat) (x3 : Int32) (x4 : Int32) (x5 : Int32) (x6 : Int32) (st : AS), ly κ a0 = (3, 7) → ly κ a2 = (51, n2) → L_Lw_tells_3 κ k_71 d a0 x1 a2 n2 x3 x4 x5 x6 st = some (v, s') → V κ M_Lw_tells (RI F) 3 [some (.ref a0), some (.int x1), some (.ref a2), some (.int x3), some (.int x4), some (.int x5), some (.int x6), none, none] [] st := by
  intro d
  induction d with
  | zero =>
    intro a0 x1 a2 n2 x3 x4 x5 x6 st l_a0 l_a2 h
    exact nn_some h
  | succ d ih =>
    intro a0 x1 a2 n2 x3 x4 x5 x6 st l_a0 l_a2 h
    rw [L_Lw_tells_3] at h
    refine b_Lw_tells_3 (l_a0 := l_a0) (k1 := fun e5 => ?_) (k2 := fun e5 => ?_)
    · replace h := if_t e5 h
      exact b_Lw_tells_106  (k1 := lfI h k)
    · replace h := if_f e5 h
      refine b_Lw_tells_12 (l_a0 := l_a0) (k1 := t_X_at (co3 7 50 12 rfl l_a0) rfl ?_)
      refine b_Lw_tells_21 (l_a0 := l_a0) (k1 := t_X_at (co3 8 50 12 rfl l_a0) rfl ?_)
      refine b_Lw_tells_32 (l_a0 := l_a0) (k1 := t_X_at (co3 5 50 12 rfl l_a0) rfl ?_)
      obtain ⟨j3, hdj3, h⟩ := jn_some h
      have hj3 : ∀ (s4 : AS), j3 s4 = some (v, s') → V κ M_Lw_tells (RI F) 100 [some (.ref a0), some (.int x1), some (.ref a2), some (.int x3), some (.int x4), some (.int x5), some (.int x6), none, none] [] s4 := by
        intro s4 h
        rw [hdj3] at h
        refine b_Lw_tells_100  (k1 := ?_)
        exact ih _ _ _ _ _ _ _ _ _ l_a0 l_a2 h
      clear hdj3
      refine b_Lw_tells_43  (k1 := fun e6 => ?_) (k2 := fun e6 => ?_)
      · replace h := if_f e6 h
        exact hj3 _  h
      · replace h := if_t e6 h
        refine b_Lw_tells_47  (k1 := fun e7 => ?_) (k2 := fun e7 => ?_)
        · replace h := if_t e7 h
          exact hk_71 _ _ _ _ _ _ _ _ l_a0 l_a2 h
        · replace h := if_f e7 h
          obtain ⟨v1, s2, h8, h⟩ := bnd2_some h
          refine b_Lw_tells_54 (l_a0 := l_a0) (k1 := t_Cd_valueOf (co3 1 0 4 rfl l_a0) l_a2 h8 ?_)
          refine b_Lw_tells_66  (k1 := fun e9 => ?_) (k2 := fun e9 => ?_)
          · replace h := if_t e9 h
            exact hj3 _  h
          · replace h := if_f e9 h
            exact hk_71 _ _ _ _ _ _ _ _ l_a0 l_a2 h
theorem t_Lw_tells {κ : Ko} {F : Int32 → AS → Prop} {a0 : Nat} {x1 : Int32} {a2 : Nat} {n2 : Nat} {x3 : Int32} {x4 : Int32} {x5 : Int32} {st : AS} {v : Int32} {s' : AS} (l_a0 : ly κ a0 = (3, 7)) (l_a2 : ly κ a2 = (51, n2)) (h : f_Lw_tells κ a0 x1 a2 n2 x3 x4 x5 st = some (v, s')) (k : F v s') : C κ M_Lw_tells [.ref a0, .int x1, .ref a2, .int x3, .int x4, .int x5] st (RI F) := by
  unfold f_Lw_tells at h
  refine e_Lw_tells ?_
  refine b_Lw_tells_0  (k1 := ?_)
  refine l_Lw_tells_3 k ?_ FU _ _ _ _ _ _ _ _ _ l_a0 l_a2 h
  · intro v10 v12 n14 v15 v16 v17 v18 s19 l11 l13 h
    refine b_Lw_tells_71 (l_a0 := l11) (k1 := t_X_at (co3 6 50 12 rfl l11) rfl ?_)
    obtain ⟨v20, s21, h22, h⟩ := bnd2_some h
    refine b_Lw_tells_84 (l_c0 := (co3 1 0 4 rfl l11)) (k1 := t_Cd_valueOf (co3 1 0 4 rfl l11) l13 h22 ?_)
    refine b_Lw_tells_90  (k1 := t_X_held  rfl ?_)
    exact b_Lw_tells_98  (k1 := lfI h k)
noncomputable def f_Sh_addRidge (κ : Ko) (a0 : Nat) (x1 : Int32) (x2 : Int32) (x3 : Int32) (x4 : Int32) (x5 : Int32) (st : AS) : Option AS := bnd (f_Sh_putRidge κ a0 (gi st a0 12) (0 : Int32) x1 st) (fun s1 => bnd (f_Sh_putRidge κ a0 (gi s1 a0 12) (1 : Int32) x2 s1) (fun s2 => bnd (f_Sh_putRidge κ a0 (gi s2 a0 12) (2 : Int32) x3 s2) (fun s3 => bnd (f_Sh_putRidge κ a0 (gi s3 a0 12) (3 : Int32) x4 s3) (fun s4 => bnd (f_Sh_putRidge κ a0 (gi s4 a0 12) (4 : Int32) (gi s4 a0 10) s4) (fun s5 => bnd (f_Sh_putRidge κ a0 (gi s5 a0 12) (5 : Int32) x5 s5) (fun s6 => bnd (f_Sh_putRidge κ a0 (gi s6 a0 12) (6 : Int32) (1 : Int32) s6) (fun s7 => some (ui s7 a0 12 ((gi s7 a0 12) + 1)))))))))
theorem t_Sh_addRidge {κ : Ko} {F : AS → Prop} {a0 : Nat} {x1 : Int32} {x2 : Int32} {x3 : Int32} {x4 : Int32} {x5 : Int32} {st : AS} {s' : AS} (l_a0 : ly κ a0 = (8, 14)) (h : f_Sh_addRidge κ a0 x1 x2 x3 x4 x5 st = some s') (k : F s') : C κ M_Sh_addRidge [.ref a0, .int x1, .int x2, .int x3, .int x4, .int x5] st (RV F) := by
  unfold f_Sh_addRidge at h
  refine e_Sh_addRidge ?_
  obtain ⟨s1, h8, h⟩ := bnd_some h
  refine b_Sh_addRidge_0 (l_a0 := l_a0) (k1 := t_Sh_putRidge l_a0 h8 ?_)
  obtain ⟨s2, h9, h⟩ := bnd_some h
  refine b_Sh_addRidge_10 (l_a0 := l_a0) (k1 := t_Sh_putRidge l_a0 h9 ?_)
  obtain ⟨s3, h10, h⟩ := bnd_some h
  refine b_Sh_addRidge_20 (l_a0 := l_a0) (k1 := t_Sh_putRidge l_a0 h10 ?_)
  obtain ⟨s4, h11, h⟩ := bnd_some h
  refine b_Sh_addRidge_30 (l_a0 := l_a0) (k1 := t_Sh_putRidge l_a0 h11 ?_)
  obtain ⟨s5, h12, h⟩ := bnd_some h
  refine b_Sh_addRidge_41 (l_a0 := l_a0) (k1 := t_Sh_putRidge l_a0 h12 ?_)
  obtain ⟨s6, h13, h⟩ := bnd_some h
  refine b_Sh_addRidge_54 (l_a0 := l_a0) (k1 := t_Sh_putRidge l_a0 h13 ?_)
  obtain ⟨s7, h14, h⟩ := bnd_some h
  refine b_Sh_addRidge_65 (l_a0 := l_a0) (k1 := t_Sh_putRidge l_a0 h14 ?_)
  exact b_Sh_addRidge_76 (l_a0 := l_a0) (k1 := lfV h k)
noncomputable def f_Sh_cutFacet (κ : Ko) (a0 : Nat) (x1 : Int32) (x2 : Int32) (x3 : Int32) (st : AS) : Option AS := bnd (f_Sh_facetPart κ a0 x1 (0 : Int32) st) (fun v1 => bnd (f_Sh_facetPart κ a0 x1 (1 : Int32) st) (fun v2 => bnd (f_Sh_facetPart κ a0 x1 (2 : Int32) st) (fun v3 => bnd (f_Sh_facetPart κ a0 x1 (3 : Int32) st) (fun v4 => bnd (f_Sh_addFacet κ a0 v1 v2 v3 v4 st) (fun s5 => bnd (f_Sh_facetPart κ a0 x1 ((0 : Int32) + x2) s5) (fun v6 => bnd (f_Sh_putFacet κ a0 (gi st a0 11) ((0 : Int32) + x2) (v6 + x3) s5) (fun s7 => bnd (f_Sh_facetPart κ a0 x1 ((2 : Int32) + x2) s7) (fun v8 => bnd (f_Sh_putFacet κ a0 (gi st a0 11) ((2 : Int32) + x2) (v8 - x3) s7) (fun s9 => bnd (f_Sh_putFacet κ a0 x1 ((2 : Int32) + x2) x3 s9) (fun s10 => some s10))))))))))
theorem t_Sh_cutFacet {κ : Ko} {F : AS → Prop} {a0 : Nat} {x1 : Int32} {x2 : Int32} {x3 : Int32} {st : AS} {s' : AS} (l_a0 : ly κ a0 = (8, 14)) (h : f_Sh_cutFacet κ a0 x1 x2 x3 st = some s') (k : F s') : C κ M_Sh_cutFacet [.ref a0, .int x1, .int x2, .int x3] st (RV F) := by
  unfold f_Sh_cutFacet at h
  refine e_Sh_cutFacet ?_
  obtain ⟨v1, h11, h⟩ := bnd_some h
  refine b_Sh_cutFacet_0 (l_a0 := l_a0) (k1 := t_Sh_facetPart l_a0 h11 ?_)
  obtain ⟨v2, h12, h⟩ := bnd_some h
  refine b_Sh_cutFacet_13 (l_a0 := l_a0) (k1 := t_Sh_facetPart l_a0 h12 ?_)
  obtain ⟨v3, h13, h⟩ := bnd_some h
  refine b_Sh_cutFacet_19 (l_a0 := l_a0) (k1 := t_Sh_facetPart l_a0 h13 ?_)
  obtain ⟨v4, h14, h⟩ := bnd_some h
  refine b_Sh_cutFacet_25 (l_a0 := l_a0) (k1 := t_Sh_facetPart l_a0 h14 ?_)
  obtain ⟨s5, h15, h⟩ := bnd_some h
  refine b_Sh_cutFacet_31 (l_c0 := l_a0) (k1 := t_Sh_addFacet l_a0 h15 ?_)
  obtain ⟨v6, h16, h⟩ := bnd_some h
  refine b_Sh_cutFacet_34 (l_a0 := l_a0) (k1 := t_Sh_facetPart l_a0 h16 ?_)
  obtain ⟨s7, h17, h⟩ := bnd_some h
  refine b_Sh_cutFacet_48 (l_c0 := l_a0) (k1 := t_Sh_putFacet l_a0 h17 ?_)
  obtain ⟨v8, h18, h⟩ := bnd_some h
  refine b_Sh_cutFacet_53 (l_a0 := l_a0) (k1 := t_Sh_facetPart l_a0 h18 ?_)
  obtain ⟨s9, h19, h⟩ := bnd_some h
  refine b_Sh_cutFacet_67 (l_c0 := l_a0) (k1 := t_Sh_putFacet l_a0 h19 ?_)
  obtain ⟨s10, h20, h⟩ := bnd_some h
  refine b_Sh_cutFacet_72 (l_a0 := l_a0) (k1 := t_Sh_putFacet l_a0 h20 ?_)
  exact b_Sh_cutFacet_81  (k1 := lfV h k)
noncomputable def f_Sh_breakFacet (κ : Ko) (a0 : Nat) (x1 : Int32) (st : AS) : Option AS := bnd (f_Sh_longOf κ a0 x1 st) (fun v1 => if 1 ≤ (v1 - 1) then bnd (gr st a0 4) (fun c3 => grd (ly κ c3 = (3, 7)) (bnd2 (f_Lw_tells κ c3 (1 : Int32) (a0 + 4) 8 ((-1000000) : Int32) (1000000 : Int32) ((-2147483648) : Int32) st) (fun v5 s6 => jn (fun (v10 : Int32) (s11 : AS) => bnd (f_Sh_wayOf κ a0 x1 s11) (fun v12 => bnd (f_Sh_facetPart κ a0 x1 (if v12 = 0 then (1 : Int32) else (0 : Int32) : Int32) s11) (fun v13 => bnd (f_Sh_facetPart κ a0 x1 v12 s11) (fun v14 => bnd (f_Sh_shortOf κ a0 x1 s11) (fun v15 => bnd (f_Sh_addRidge κ a0 v12 (v14 + v10) v13 (v13 + v15) (0 : Int32) s11) (fun s16 => bnd (f_Sh_cutFacet κ a0 x1 v12 v10 s16) (fun s17 => some s17))))))) fun j9 => if v5 = ((-2147483648)) then grd (¬ (v1 - 1) = 0) (j9 ((((f_Sh_drawn κ a0 s6).1) - ((f_Sh_drawn κ a0 s6).1) / (v1 - 1) * (v1 - 1)) + 1) ((f_Sh_drawn κ a0 s6).2)) else bnd (f_Jm_floorDiv κ (v5 * ((v1 - 1) + 1)) (1000 : Int32) s6) (fun v7 => j9 (((lmax (1 : Int64) (lmin (((v1 - 1) : Int32).toInt64) ((v7 : Int32).toInt64))) : Int64).toInt32) s6)))) else some st)
theorem t_Sh_breakFacet {κ : Ko} {F : AS → Prop} {a0 : Nat} {x1 : Int32} {st : AS} {s' : AS} (l_a0 : ly κ a0 = (8, 14)) (h : f_Sh_breakFacet κ a0 x1 st = some s') (k : F s') : C κ M_Sh_breakFacet [.ref a0, .int x1] st (RV F) := by
  unfold f_Sh_breakFacet at h
  refine e_Sh_breakFacet ?_
  obtain ⟨v1, h18, h⟩ := bnd_some h
  refine b_Sh_breakFacet_0 (l_a0 := l_a0) (k1 := t_Sh_longOf l_a0 h18 ?_)
  refine b_Sh_breakFacet_5  (k1 := fun e19 => ?_) (k2 := fun e19 => ?_)
  · replace h := if_t e19 h
    obtain ⟨c3, h2, h⟩ := bnd_some h
    obtain ⟨l4, h⟩ := grd_some h
    obtain ⟨v5, s6, h20, h⟩ := bnd2_some h
    refine b_Sh_breakFacet_14 (l_a0 := l_a0) (g1 := h2) (l_r3 := l4) (k2 := t_Lw_tells l4 (co8 4 51 8 rfl l_a0) h20 ?_)
    obtain ⟨j9, hdj9, h⟩ := jn_some h
    have hj9 : ∀ (v10 : Int32) (s11 : AS), j9 v10 s11 = some s' → V κ M_Sh_breakFacet (RV F) 69 [some (.ref a0), some (.int x1), none, none, none, none, none, none] [.int v10] s11 := by
      intro v10 s11 h
      rw [hdj9] at h
      obtain ⟨v12, h21, h⟩ := bnd_some h
      refine b_Sh_breakFacet_69 (l_a0 := l_a0) (k1 := t_Sh_wayOf l_a0 h21 ?_)
      have K23 : V κ M_Sh_breakFacet (RV F) 88 [some (.ref a0), some (.int x1), none, none, some (.int v10), some (.int v12), none, none] [.int (if v12 = 0 then (1 : Int32) else (0 : Int32) : Int32)] s11 := by
        obtain ⟨v13, h24, h⟩ := bnd_some h
        refine b_Sh_breakFacet_88 (l_a0 := l_a0) (k1 := t_Sh_facetPart l_a0 h24 ?_)
        obtain ⟨v14, h25, h⟩ := bnd_some h
        refine b_Sh_breakFacet_97 (l_a0 := l_a0) (k1 := t_Sh_facetPart l_a0 h25 ?_)
        obtain ⟨v15, h26, h⟩ := bnd_some h
        refine b_Sh_breakFacet_109 (l_a0 := l_a0) (k1 := t_Sh_shortOf l_a0 h26 ?_)
        obtain ⟨s16, h27, h⟩ := bnd_some h
        refine b_Sh_breakFacet_121 (l_c0 := l_a0) (k1 := t_Sh_addRidge l_a0 h27 ?_)
        obtain ⟨s17, h28, h⟩ := bnd_some h
        refine b_Sh_breakFacet_126 (l_a0 := l_a0) (k1 := t_Sh_cutFacet l_a0 h28 ?_)
        exact b_Sh_breakFacet_135  (k1 := lfV h k)
      refine b_Sh_breakFacet_76  (k1 := fun e29 => ?_) (k2 := fun e29 => ?_)
      · refine b_Sh_breakFacet_87  (k1 := ?_)
        exact (ite_f (P := fun z => V κ M_Sh_breakFacet (RV F) 88 [some (.ref a0), some (.int x1), none, none, some (.int v10), some (.int v12), none, none] [.int z] s11) e29 K23)
      · refine b_Sh_breakFacet_83  (k1 := ?_)
        exact (ite_t (P := fun z => V κ M_Sh_breakFacet (RV F) 88 [some (.ref a0), some (.int x1), none, none, some (.int v10), some (.int v12), none, none] [.int z] s11) e29 K23)
    clear hdj9
    refine b_Sh_breakFacet_32  (k1 := fun e30 => ?_) (k2 := fun e30 => ?_)
    · replace h := if_f e30 h
      obtain ⟨v7, h31, h⟩ := bnd_some h
      refine b_Sh_breakFacet_50  (k1 := t_Jm_floorDiv  h31 ?_)
      refine b_Sh_breakFacet_61  (k1 := t_X_held  rfl ?_)
      refine b_Sh_breakFacet_68  (k1 := ?_)
      exact hj9 _ _  h
    · replace h := if_t e30 h
      refine b_Sh_breakFacet_39 (l_a0 := l_a0) (k1 := t_Sh_drawn l_a0 rfl ?_)
      obtain ⟨h8, h⟩ := grd_some h
      refine b_Sh_breakFacet_43 (z1 := h8) (k2 := ?_)
      exact hj9 _ _  h
  · replace h := if_f e19 h
    exact b_Sh_breakFacet_13  (k1 := lfV h k)
noncomputable def L_Sh_crush_31 (κ : Ko) (k_61 : Nat → Int32 → Int32 → AS → Option (Int32 × AS)) : Nat → Nat → Int32 → Int32 → Int32 → AS → Option (Int32 × AS)
  | 0, _, _, _, _, _ => none
  | d + 1, a0, x1, x2, x3, st => if (gi st a0 12) ≤ x3 then k_61 a0 x1 x2 st else bnd (f_Sh_ridgePart κ a0 x3 (6 : Int32) st) (fun v2 => bnd (f_Sh_putRidge κ a0 x3 (6 : Int32) (v2 + 1) st) (fun s3 => L_Sh_crush_31 κ k_61 d a0 x1 x2 (x3 + 1) s3))
noncomputable def L_Sh_crush_75 (κ : Ko) (k_209 : Nat → Int32 → Int32 → AS → Option (Int32 × AS)) : Nat → Nat → Int32 → Int32 → Int32 → Int32 → Int32 → Int32 → AS → Option (Int32 × AS)
  | 0, _, _, _, _, _, _, _, _ => none
  | d + 1, a0, x1, x2, x3, x4, x5, x6, st => if x3 ≤ x6 then k_209 a0 x4 x5 st else bnd (f_Sh_fillWords κ a0 x6 x1 (gi ((f_Sh_drawn κ a0 st).2) a0 10) x2 ((f_Sh_drawn κ a0 st).2)) (fun s12 => bnd (gr s12 a0 4) (fun c14 => grd (ly κ c14 = (3, 7)) (bnd2 (f_Lw_tells κ c14 (0 : Int32) (a0 + 4) 8 (0 : Int32) (1000 : Int32) (0 : Int32) s12) (fun v16 s17 => bnd (f_Sh_longOf κ a0 x6 s17) (fun v18 => jn (fun (v21 : Int32) => jn (fun (v24 : Int32) => L_Sh_crush_75 κ k_209 d a0 x1 x2 x3 x4 v24 (x6 + 1) s17) fun j23 => if (if v18 < 2 then (0 : Int32) else (1 : Int32) : Int32) = 0 then j23 (x5 + v21) else if v16 ≤ (((f_Sh_drawn κ a0 st).1) - ((f_Sh_drawn κ a0 st).1) / 1000 * 1000) then j23 (x5 + v21) else if 200 ≤ (gi s17 a0 11) then j23 (x5 + v21) else if 400 ≤ (gi s17 a0 12) then j23 (x5 + v21) else bnd (f_Sh_breakFacet κ a0 x6 s17) (fun s22 => L_Sh_crush_75 κ k_209 d a0 x1 x2 x3 (x4 + 1) (x5 + v21) (x6 + 1) s22)) fun j20 => if (if v18 < 2 then (0 : Int32) else (1 : Int32) : Int32) = 0 then j20 (0 : Int32) else bnd (f_Sh_shortOf κ a0 x6 s17) (fun v19 => j20 (v16 * v19)))))))
noncomputable def f_Sh_crush (κ : Ko) (a0 : Nat) (x1 : Int32) (st : AS) : Option (Int32 × AS) := if (gi st a0 10) < 60 then bnd (f_Sh_lengthOfRounds κ a0 (0 : Int32) (60 : Int32) (ui st a0 10 ((gi st a0 10) + 1))) (fun v1 => L_Sh_crush_31 κ (fun (v7 : Nat) (v9 : Int32) (v10 : Int32) (s11 : AS) => L_Sh_crush_75 κ (fun (v39 : Nat) (v41 : Int32) (v42 : Int32) (s43 : AS) => some (v41, (gput s43 (v39 + 3) 61 (gi s43 v39 10) v42))) FU v7 v9 v10 (gi s11 v7 11) (0 : Int32) (0 : Int32) (0 : Int32) s11) FU a0 x1 v1 (0 : Int32) (ui st a0 10 ((gi st a0 10) + 1))) else some (((-1) : Int32), st)
theorem l_Sh_crush_31 {κ : Ko} {F : Int32 → AS → Prop} {v : Int32} {s' : AS} (k : F v s') {k_61 : Nat → Int32 → Int32 → AS → Option (Int32 × AS)} (hk_61 : ∀ (a0 : Nat) (x1 : Int32) (x2 : Int32) (st : AS), ly κ a0 = (8, 14) → k_61 a0 x1 x2 st = some (v, s') → V κ M_Sh_crush (RI F) 61 [some (.ref a0), some (.int x1), some (.int x2), none, none, none, none, none, none, none] [] st) : ∀ (d : Nat) (a0 : Nat) (x1 : Int32) (x2 : Int32) (x3 : Int32) (st : AS), ly κ a0 = (8, 14) → L_Sh_crush_31 κ k_61 d a0 x1 x2 x3 st = some (v, s') → V κ M_Sh_crush (RI F) 31 [some (.ref a0), some (.int x1), some (.int x2), some (.int x3), none, none, none, none, none, none] [] st := by
  intro d
  induction d with
  | zero =>
    intro a0 x1 x2 x3 st l_a0 h
    exact nn_some h
  | succ d ih =>
    intro a0 x1 x2 x3 st l_a0 h
    rw [L_Sh_crush_31] at h
    refine b_Sh_crush_31 (l_a0 := l_a0) (k1 := fun e4 => ?_) (k2 := fun e4 => ?_)
    · replace h := if_t e4 h
      exact hk_61 _ _ _ _ l_a0 h
    · replace h := if_f e4 h
      obtain ⟨v2, h5, h⟩ := bnd_some h
      refine b_Sh_crush_39 (l_a0 := l_a0) (k1 := t_Sh_ridgePart l_a0 h5 ?_)
      obtain ⟨s3, h6, h⟩ := bnd_some h
      refine b_Sh_crush_50 (l_c0 := l_a0) (k1 := t_Sh_putRidge l_a0 h6 ?_)
      refine b_Sh_crush_55  (k1 := ?_)
      exact ih _ _ _ _ _ l_a0 h
theorem l_Sh_crush_75 {κ : Ko} {F : Int32 → AS → Prop} {v : Int32} {s' : AS} (k : F v s') {k_209 : Nat → Int32 → Int32 → AS → Option (Int32 × AS)} (hk_209 : ∀ (a0 : Nat) (x4 : Int32) (x5 : Int32) (st : AS), ly κ a0 = (8, 14) → k_209 a0 x4 x5 st = some (v, s') → V κ M_Sh_crush (RI F) 209 [some (.ref a0), none, none, none, some (.int x4), some (.int x5), none, none, none, none] [] st) : ∀ (d : Nat) (a0 : Nat) (x1 : Int32) (x2 : Int32) (x3 : Int32) (x4 : Int32) (x5 : Int32) (x6 : Int32) (st : AS), ly κ a0 = (8, 14) → L_Sh_crush_75 κ k_209 d a0 x1 x2 x3 x4 x5 x6 st = some (v, s') → V κ M_Sh_crush (RI F) 75 [some (.ref a0), some (.int x1), some (.int x2), some (.int x3), some (.int x4), some (.int x5), some (.int x6), none, none, none] [] st := by
  intro d
  induction d with
  | zero =>
    intro a0 x1 x2 x3 x4 x5 x6 st l_a0 h
    exact nn_some h
  | succ d ih =>
    intro a0 x1 x2 x3 x4 x5 x6 st l_a0 h
    rw [L_Sh_crush_75] at h
    refine b_Sh_crush_75  (k1 := fun e25 => ?_) (k2 := fun e25 => ?_)
    · replace h := if_t e25 h
      exact hk_209 _ _ _ _ l_a0 h
    · replace h := if_f e25 h
      refine b_Sh_crush_81 (l_a0 := l_a0) (k1 := t_Sh_drawn l_a0 rfl ?_)
      obtain ⟨s12, h26, h⟩ := bnd_some h
      refine b_Sh_crush_85 (l_a0 := l_a0) (k1 := t_Sh_fillWords l_a0 h26 ?_)
      obtain ⟨c14, h13, h⟩ := bnd_some h
      obtain ⟨l15, h⟩ := grd_some h
      obtain ⟨v16, s17, h27, h⟩ := bnd2_some h
      refine b_Sh_crush_103 (l_a0 := l_a0) (g1 := h13) (l_r8 := l15) (k2 := t_Lw_tells l15 (co8 4 51 8 rfl l_a0) h27 ?_)
      obtain ⟨v18, h28, h⟩ := bnd_some h
      refine b_Sh_crush_120 (l_a0 := l_a0) (k1 := t_Sh_longOf l_a0 h28 ?_)
      have K30 : V κ M_Sh_crush (RI F) 137 [some (.ref a0), some (.int x1), some (.int x2), some (.int x3), some (.int x4), some (.int x5), some (.int x6), some (.int (((f_Sh_drawn κ a0 st).1) - ((f_Sh_drawn κ a0 st).1) / 1000 * 1000)), some (.int v16), none] [.int (if v18 < 2 then (0 : Int32) else (1 : Int32) : Int32)] s17 := by
        obtain ⟨j20, hdj20, h⟩ := jn_some h
        have hj20 : ∀ (v21 : Int32), j20 v21 = some (v, s') → V κ M_Sh_crush (RI F) 159 [some (.ref a0), some (.int x1), some (.int x2), some (.int x3), some (.int x4), none, some (.int x6), some (.int (((f_Sh_drawn κ a0 st).1) - ((f_Sh_drawn κ a0 st).1) / 1000 * 1000)), some (.int v16), some (.int (if v18 < 2 then (0 : Int32) else (1 : Int32) : Int32))] [.int v21, .int x5] s17 := by
          intro v21 h
          rw [hdj20] at h
          obtain ⟨j23, hdj23, h⟩ := jn_some h
          have hj23 : ∀ (v24 : Int32), j23 v24 = some (v, s') → V κ M_Sh_crush (RI F) 203 [some (.ref a0), some (.int x1), some (.int x2), some (.int x3), some (.int x4), some (.int v24), some (.int x6), none, none, none] [] s17 := by
            intro v24 h
            rw [hdj23] at h
            refine b_Sh_crush_203  (k1 := ?_)
            exact ih _ _ _ _ _ _ _ _ l_a0 h
          clear hdj23
          refine b_Sh_crush_159  (k1 := fun e31 => ?_) (k2 := fun e31 => ?_)
          · replace h := if_t e31 h
            exact hj23 _  h
          · replace h := if_f e31 h
            refine b_Sh_crush_167  (k1 := fun e32 => ?_) (k2 := fun e32 => ?_)
            · replace h := if_t e32 h
              exact hj23 _  h
            · replace h := if_f e32 h
              refine b_Sh_crush_174 (l_a0 := l_a0) (k1 := fun e33 => ?_) (k2 := fun e33 => ?_)
              · replace h := if_t e33 h
                exact hj23 _  h
              · replace h := if_f e33 h
                refine b_Sh_crush_184 (l_a0 := l_a0) (k1 := fun e34 => ?_) (k2 := fun e34 => ?_)
                · replace h := if_t e34 h
                  exact hj23 _  h
                · replace h := if_f e34 h
                  obtain ⟨s22, h35, h⟩ := bnd_some h
                  refine b_Sh_crush_194 (l_a0 := l_a0) (k1 := t_Sh_breakFacet l_a0 h35 ?_)
                  refine b_Sh_crush_200  (k1 := ?_)
                  exact ih _ _ _ _ _ _ _ _ l_a0 h
        clear hdj20
        refine b_Sh_crush_137  (k1 := fun e36 => ?_) (k2 := fun e36 => ?_)
        · replace h := if_t e36 h
          refine b_Sh_crush_158  (k1 := ?_)
          exact hj20 _  h
        · replace h := if_f e36 h
          obtain ⟨v19, h37, h⟩ := bnd_some h
          refine b_Sh_crush_146 (l_a0 := l_a0) (k1 := t_Sh_shortOf l_a0 h37 ?_)
          refine b_Sh_crush_154  (k1 := ?_)
          exact hj20 _  h
      refine b_Sh_crush_128  (k1 := fun e38 => ?_) (k2 := fun e38 => ?_)
      · refine b_Sh_crush_136  (k1 := ?_)
        exact (ite_t (P := fun z => V κ M_Sh_crush (RI F) 137 [some (.ref a0), some (.int x1), some (.int x2), some (.int x3), some (.int x4), some (.int x5), some (.int x6), some (.int (((f_Sh_drawn κ a0 st).1) - ((f_Sh_drawn κ a0 st).1) / 1000 * 1000)), some (.int v16), none] [.int z] s17) e38 K30)
      · refine b_Sh_crush_132  (k1 := ?_)
        exact (ite_f (P := fun z => V κ M_Sh_crush (RI F) 137 [some (.ref a0), some (.int x1), some (.int x2), some (.int x3), some (.int x4), some (.int x5), some (.int x6), some (.int (((f_Sh_drawn κ a0 st).1) - ((f_Sh_drawn κ a0 st).1) / 1000 * 1000)), some (.int v16), none] [.int z] s17) e38 K30)
theorem t_Sh_crush {κ : Ko} {F : Int32 → AS → Prop} {a0 : Nat} {x1 : Int32} {st : AS} {v : Int32} {s' : AS} (l_a0 : ly κ a0 = (8, 14)) (h : f_Sh_crush κ a0 x1 st = some (v, s')) (k : F v s') : C κ M_Sh_crush [.ref a0, .int x1] st (RI F) := by
  unfold f_Sh_crush at h
  refine e_Sh_crush ?_
  refine b_Sh_crush_0 (l_a0 := l_a0) (k1 := fun e44 => ?_) (k2 := fun e44 => ?_)
  · replace h := if_t e44 h
    obtain ⟨v1, h45, h⟩ := bnd_some h
    refine b_Sh_crush_11 (l_a0 := l_a0) (k1 := t_Sh_lengthOfRounds l_a0 h45 ?_)
    refine b_Sh_crush_28  (k1 := ?_)
    refine l_Sh_crush_31 k ?_ FU _ _ _ _ _ l_a0 h
    · intro v7 v9 v10 s11 l8 h
      refine b_Sh_crush_61 (l_a0 := l8) (k1 := ?_)
      refine l_Sh_crush_75 k ?_ FU _ _ _ _ _ _ _ _ l8 h
      · intro v39 v41 v42 s43 l40 h
        refine b_Sh_crush_209 (l_a0 := l40) (k1 := t_X_put (co8 3 50 61 rfl l40) rfl ?_)
        exact b_Sh_crush_222  (k1 := lfI h k)
  · replace h := if_f e44 h
    exact b_Sh_crush_9  (k1 := lfI h k)
noncomputable def f_X_press (κ : Ko) (a0 : Nat) (x1 : Int32) (x2 : Int32) (st : AS) : Option (Int32 × AS) := bnd (f_Pl_get κ (a0 + 21) x1 st) (fun v1 => nul v1 (some (((-1) : Int32), st)) (fun c2 => grd (ly κ c2 = (8, 14)) (if (f_X_isTight κ x2 st) = 0 then some (((-1) : Int32), st) else bnd2 (f_Sh_crush κ c2 x2 st) (fun v4 s5 => some (v4, s5)))))
theorem t_X_press {κ : Ko} {F : Int32 → AS → Prop} {a0 : Nat} {x1 : Int32} {x2 : Int32} {st : AS} {v : Int32} {s' : AS} (l_a0 : ly κ a0 = (11, 15)) (h : f_X_press κ a0 x1 x2 st = some (v, s')) (k : F v s') : C κ M_X_press [.ref a0, .int x1, .int x2] st (RI F) := by
  unfold f_X_press at h
  refine e_X_press ?_
  obtain ⟨v1, h6, h⟩ := bnd_some h
  refine b_X_press_0 (l_a0 := l_a0) (k1 := t_Pl_get (co11 21 5 3 rfl l_a0) h6 ?_)
  rcases v1 with _ | c2
  · replace h := nul_n h
    exact b_X_press_8_N  (k1 := lfI h k)
  · obtain ⟨l3, h⟩ := grd_some (nul_s h)
    refine b_X_press_8_R  (k1 := t_X_isTight  rfl ?_)
    refine b_X_press_17  (k1 := fun e7 => ?_) (k2 := fun e7 => ?_)
    · replace h := if_f e7 h
      obtain ⟨v4, s5, h8, h⟩ := bnd2_some h
      refine b_X_press_22 (l_a3 := l3) (k1 := t_Sh_crush l3 h8 ?_)
      exact b_X_press_27  (k1 := lfI h k)
    · replace h := if_t e7 h
      exact b_X_press_20  (k1 := lfI h k)
noncomputable def f_Sh_isCutBy (κ : Ko) (a0 : Nat) (x1 : Int32) (x2 : Int32) (x3 : Int32) (st : AS) : Option Int32 := bnd (f_Sh_facetPart κ a0 x1 ((0 : Int32) + x2) st) (fun v1 => jn (some (0 : Int32)) fun j3 => if x3 ≤ v1 then j3 else bnd (f_Sh_facetPart κ a0 x1 ((2 : Int32) + x2) st) (fun v2 => if (v1 + v2) ≤ x3 then j3 else some (1 : Int32)))
theorem t_Sh_isCutBy {κ : Ko} {F : Int32 → AS → Prop} {a0 : Nat} {x1 : Int32} {x2 : Int32} {x3 : Int32} {st : AS} {v : Int32} (l_a0 : ly κ a0 = (8, 14)) (h : f_Sh_isCutBy κ a0 x1 x2 x3 st = some v) (k : F v st) : C κ M_Sh_isCutBy [.ref a0, .int x1, .int x2, .int x3] st (RI F) := by
  unfold f_Sh_isCutBy at h
  refine e_Sh_isCutBy ?_
  obtain ⟨v1, h4, h⟩ := bnd_some h
  refine b_Sh_isCutBy_0 (l_a0 := l_a0) (k1 := t_Sh_facetPart l_a0 h4 ?_)
  obtain ⟨j3, hdj3, h⟩ := jn_some h
  have hj3 : j3 = some v → V κ M_Sh_isCutBy (RI F) 35 [none, none, none, none, none] [] st := by
    intro h
    rw [hdj3] at h
    exact b_Sh_isCutBy_35  (k1 := lfIP h k)
  clear hdj3
  refine b_Sh_isCutBy_8  (k1 := fun e5 => ?_) (k2 := fun e5 => ?_)
  · replace h := if_t e5 h
    exact hj3  h
  · replace h := if_f e5 h
    obtain ⟨v2, h6, h⟩ := bnd_some h
    refine b_Sh_isCutBy_16 (l_a0 := l_a0) (k1 := t_Sh_facetPart l_a0 h6 ?_)
    refine b_Sh_isCutBy_27  (k1 := fun e7 => ?_) (k2 := fun e7 => ?_)
    · replace h := if_t e7 h
      exact hj3  h
    · replace h := if_f e7 h
      exact b_Sh_isCutBy_31  (k1 := lfIP h k)
noncomputable def f_Sh_side (κ : Ko) (a0 : Nat) (x1 : Int32) (st : AS) : Int32 := (if x1 = 0 then gi st a0 8 else gi st a0 9 : Int32)
theorem t_Sh_side {κ : Ko} {F : Int32 → AS → Prop} {a0 : Nat} {x1 : Int32} {st : AS} {v : Int32} (l_a0 : ly κ a0 = (8, 14)) (h : f_Sh_side κ a0 x1 st = v) (k : F v st) : C κ M_Sh_side [.ref a0, .int x1] st (RI F) := by
  unfold f_Sh_side at h
  refine e_Sh_side ?_
  have K2 : (RI F) (some (.int (if x1 = 0 then gi st a0 8 else gi st a0 9 : Int32))) st := lfIPT h k
  refine b_Sh_side_0  (k1 := fun e3 => ?_) (k2 := fun e3 => ?_)
  · exact b_Sh_side_11 (l_a0 := l_a0) (k1 := (ite_f (P := fun z => (RI F) (some (.int z)) st) e3 K2))
  · exact b_Sh_side_4 (l_a0 := l_a0) (k1 := (ite_t (P := fun z => (RI F) (some (.int z)) st) e3 K2))
noncomputable def L_Sh_crease_5 (κ : Ko) (k_39 : Nat → Int32 → Int32 → Int32 → AS → Option (Int32 × AS)) : Nat → Nat → Int32 → Int32 → Int32 → Int32 → AS → Option (Int32 × AS)
  | 0, _, _, _, _, _, _ => none
  | d + 1, a0, x1, x2, x3, x4, st => if (gi st a0 11) ≤ x4 then k_39 a0 x1 x2 x3 st else bnd (f_Sh_isCutBy κ a0 x4 x1 x2 st) (fun v1 => L_Sh_crease_5 κ k_39 d a0 x1 x2 (if v1 = 0 then x3 + 0 else x3 + 1 : Int32) (x4 + 1) st)
noncomputable def L_Sh_crease_76 (κ : Ko) (k_118 : Nat → Int32 → Int32 → Int32 → AS → Option (Int32 × AS)) : Nat → Nat → Int32 → Int32 → Int32 → Int32 → Int32 → AS → Option (Int32 × AS)
  | 0, _, _, _, _, _, _, _ => none
  | d + 1, a0, x1, x2, x3, x4, x5, st => if x4 ≤ x5 then k_118 a0 x1 x2 x3 st else bnd (f_Sh_isCutBy κ a0 x5 x1 x2 st) (fun v13 => jn (fun (s17 : AS) => L_Sh_crease_76 κ k_118 d a0 x1 x2 x3 x4 (x5 + 1) s17) fun j16 => if v13 = 0 then j16 st else bnd (f_Sh_facetPart κ a0 x5 ((0 : Int32) + x1) st) (fun v14 => bnd (f_Sh_cutFacet κ a0 x5 x1 (x2 - v14) st) (fun s15 => j16 s15)))
noncomputable def f_Sh_crease (κ : Ko) (a0 : Nat) (x1 : Int32) (x2 : Int32) (st : AS) : Option (Int32 × AS) := L_Sh_crease_5 κ (fun (v7 : Nat) (v9 : Int32) (v10 : Int32) (v11 : Int32) (s12 : AS) => jn (some (((-1) : Int32), s12)) fun j30 => if v11 = 0 then j30 else if 200 < ((gi s12 v7 11) + v11) then j30 else if (gi s12 v7 12) < 400 then L_Sh_crease_76 κ (fun (v23 : Nat) (v25 : Int32) (v26 : Int32) (v27 : Int32) (s28 : AS) => bnd (f_Sh_addRidge κ v23 v25 v26 (0 : Int32) (f_Sh_side κ v23 (if v25 = 0 then (1 : Int32) else (0 : Int32) : Int32) s28) (1 : Int32) s28) (fun s29 => some (v27, s29))) FU v7 v9 v10 v11 (gi s12 v7 11) (0 : Int32) s12 else j30) FU a0 x1 x2 (0 : Int32) (0 : Int32) st
theorem l_Sh_crease_5 {κ : Ko} {F : Int32 → AS → Prop} {v : Int32} {s' : AS} (k : F v s') {k_39 : Nat → Int32 → Int32 → Int32 → AS → Option (Int32 × AS)} (hk_39 : ∀ (a0 : Nat) (x1 : Int32) (x2 : Int32) (x3 : Int32) (st : AS), ly κ a0 = (8, 14) → k_39 a0 x1 x2 x3 st = some (v, s') → V κ M_Sh_crease (RI F) 39 [some (.ref a0), some (.int x1), some (.int x2), some (.int x3), none, none] [] st) : ∀ (d : Nat) (a0 : Nat) (x1 : Int32) (x2 : Int32) (x3 : Int32) (x4 : Int32) (st : AS), ly κ a0 = (8, 14) → L_Sh_crease_5 κ k_39 d a0 x1 x2 x3 x4 st = some (v, s') → V κ M_Sh_crease (RI F) 5 [some (.ref a0), some (.int x1), some (.int x2), some (.int x3), some (.int x4), none] [] st := by
  intro d
  induction d with
  | zero =>
    intro a0 x1 x2 x3 x4 st l_a0 h
    exact nn_some h
  | succ d ih =>
    intro a0 x1 x2 x3 x4 st l_a0 h
    rw [L_Sh_crease_5] at h
    refine b_Sh_crease_5 (l_a0 := l_a0) (k1 := fun e2 => ?_) (k2 := fun e2 => ?_)
    · replace h := if_t e2 h
      exact hk_39 _ _ _ _ _ l_a0 h
    · replace h := if_f e2 h
      obtain ⟨v1, h3, h⟩ := bnd_some h
      refine b_Sh_crease_14 (l_a0 := l_a0) (k1 := t_Sh_isCutBy l_a0 h3 ?_)
      have K5 : V κ M_Sh_crease (RI F) 5 [some (.ref a0), some (.int x1), some (.int x2), some (.int (if v1 = 0 then x3 + 0 else x3 + 1 : Int32)), some (.int (x4 + 1)), none] [] st := by
        exact ih _ _ _ _ _ _ l_a0 h
      refine b_Sh_crease_23  (k1 := fun e6 => ?_) (k2 := fun e6 => ?_)
      · refine b_Sh_crease_30  (k1 := ?_)
        exact (ite_t (P := fun z => V κ M_Sh_crease (RI F) 5 [some (.ref a0), some (.int x1), some (.int x2), some (.int z), some (.int (x4 + 1)), none] [] st) e6 K5)
      · refine b_Sh_crease_26  (k1 := ?_)
        exact (ite_f (P := fun z => V κ M_Sh_crease (RI F) 5 [some (.ref a0), some (.int x1), some (.int x2), some (.int z), some (.int (x4 + 1)), none] [] st) e6 K5)
theorem l_Sh_crease_76 {κ : Ko} {F : Int32 → AS → Prop} {v : Int32} {s' : AS} (k : F v s') {k_118 : Nat → Int32 → Int32 → Int32 → AS → Option (Int32 × AS)} (hk_118 : ∀ (a0 : Nat) (x1 : Int32) (x2 : Int32) (x3 : Int32) (st : AS), ly κ a0 = (8, 14) → k_118 a0 x1 x2 x3 st = some (v, s') → V κ M_Sh_crease (RI F) 118 [some (.ref a0), some (.int x1), some (.int x2), some (.int x3), none, none] [] st) : ∀ (d : Nat) (a0 : Nat) (x1 : Int32) (x2 : Int32) (x3 : Int32) (x4 : Int32) (x5 : Int32) (st : AS), ly κ a0 = (8, 14) → L_Sh_crease_76 κ k_118 d a0 x1 x2 x3 x4 x5 st = some (v, s') → V κ M_Sh_crease (RI F) 76 [some (.ref a0), some (.int x1), some (.int x2), some (.int x3), some (.int x4), some (.int x5)] [] st := by
  intro d
  induction d with
  | zero =>
    intro a0 x1 x2 x3 x4 x5 st l_a0 h
    exact nn_some h
  | succ d ih =>
    intro a0 x1 x2 x3 x4 x5 st l_a0 h
    rw [L_Sh_crease_76] at h
    refine b_Sh_crease_76  (k1 := fun e18 => ?_) (k2 := fun e18 => ?_)
    · replace h := if_t e18 h
      exact hk_118 _ _ _ _ _ l_a0 h
    · replace h := if_f e18 h
      obtain ⟨v13, h19, h⟩ := bnd_some h
      refine b_Sh_crease_83 (l_a0 := l_a0) (k1 := t_Sh_isCutBy l_a0 h19 ?_)
      obtain ⟨j16, hdj16, h⟩ := jn_some h
      have hj16 : ∀ (s17 : AS), j16 s17 = some (v, s') → V κ M_Sh_crease (RI F) 112 [some (.ref a0), some (.int x1), some (.int x2), some (.int x3), some (.int x4), some (.int x5)] [] s17 := by
        intro s17 h
        rw [hdj16] at h
        refine b_Sh_crease_112  (k1 := ?_)
        exact ih _ _ _ _ _ _ _ l_a0 h
      clear hdj16
      refine b_Sh_crease_91  (k1 := fun e20 => ?_) (k2 := fun e20 => ?_)
      · replace h := if_t e20 h
        exact hj16 _  h
      · replace h := if_f e20 h
        obtain ⟨v14, h21, h⟩ := bnd_some h
        refine b_Sh_crease_94 (l_a0 := l_a0) (k1 := t_Sh_facetPart l_a0 h21 ?_)
        obtain ⟨s15, h22, h⟩ := bnd_some h
        refine b_Sh_crease_108 (l_c0 := l_a0) (k1 := t_Sh_cutFacet l_a0 h22 ?_)
        exact hj16 _  h
theorem t_Sh_crease {κ : Ko} {F : Int32 → AS → Prop} {a0 : Nat} {x1 : Int32} {x2 : Int32} {st : AS} {v : Int32} {s' : AS} (l_a0 : ly κ a0 = (8, 14)) (h : f_Sh_crease κ a0 x1 x2 st = some (v, s')) (k : F v s') : C κ M_Sh_crease [.ref a0, .int x1, .int x2] st (RI F) := by
  unfold f_Sh_crease at h
  refine e_Sh_crease ?_
  refine b_Sh_crease_0  (k1 := ?_)
  refine l_Sh_crease_5 k ?_ FU _ _ _ _ _ _ l_a0 h
  · intro v7 v9 v10 v11 s12 l8 h
    obtain ⟨j30, hdj30, h⟩ := jn_some h
    have hj30 : j30 = some (v, s') → V κ M_Sh_crease (RI F) 65 [none, none, none, none, none, none] [] s12 := by
      intro h
      rw [hdj30] at h
      exact b_Sh_crease_65  (k1 := lfI h k)
    clear hdj30
    refine b_Sh_crease_39  (k1 := fun e31 => ?_) (k2 := fun e31 => ?_)
    · replace h := if_t e31 h
      exact hj30  h
    · replace h := if_f e31 h
      refine b_Sh_crease_43 (l_a0 := l8) (k1 := fun e32 => ?_) (k2 := fun e32 => ?_)
      · replace h := if_t e32 h
        exact hj30  h
      · replace h := if_f e32 h
        refine b_Sh_crease_55 (l_a0 := l8) (k1 := fun e33 => ?_) (k2 := fun e33 => ?_)
        · replace h := if_t e33 h
          refine b_Sh_crease_67 (l_a0 := l8) (k1 := ?_)
          refine l_Sh_crease_76 k ?_ FU _ _ _ _ _ _ _ l8 h
          · intro v23 v25 v26 v27 s28 l24 h
            have K35 : V κ M_Sh_crease (RI F) 132 [none, none, none, some (.int v27), none, none] [.int (if v25 = 0 then (1 : Int32) else (0 : Int32) : Int32), .ref v23, .int (0 : Int32), .int v26, .int v25, .ref v23] s28 := by
              refine b_Sh_crease_132 (l_c4 := l24) (k1 := t_Sh_side l24 rfl ?_)
              obtain ⟨s29, h36, h⟩ := bnd_some h
              refine b_Sh_crease_135 (l_c0 := l24) (k1 := t_Sh_addRidge l24 h36 ?_)
              exact b_Sh_crease_139  (k1 := lfI h k)
            refine b_Sh_crease_118  (k1 := fun e37 => ?_) (k2 := fun e37 => ?_)
            · refine b_Sh_crease_131  (k1 := ?_)
              exact (ite_f (P := fun z => V κ M_Sh_crease (RI F) 132 [none, none, none, some (.int v27), none, none] [.int z, .ref v23, .int (0 : Int32), .int v26, .int v25, .ref v23] s28) e37 K35)
            · refine b_Sh_crease_127  (k1 := ?_)
              exact (ite_t (P := fun z => V κ M_Sh_crease (RI F) 132 [none, none, none, some (.int v27), none, none] [.int z, .ref v23, .int (0 : Int32), .int v26, .int v25, .ref v23] s28) e37 K35)
        · replace h := if_f e33 h
          exact hj30  h
noncomputable def f_X_fold (κ : Ko) (a0 : Nat) (x1 : Int32) (x2 : Int32) (x3 : Int32) (st : AS) : Option (Int32 × AS) := bnd (f_Pl_get κ (a0 + 21) x1 st) (fun v1 => nul v1 (some (((-1) : Int32), st)) (fun c2 => grd (ly κ c2 = (8, 14)) (if (wi ((x2 : Int32).toInt64) (0 : Int64) (1 : Int64)) = 0 then some (((-1) : Int32), st) else bnd2 (f_Sh_crease κ c2 x2 x3 st) (fun v4 s5 => some (v4, s5)))))
theorem t_X_fold {κ : Ko} {F : Int32 → AS → Prop} {a0 : Nat} {x1 : Int32} {x2 : Int32} {x3 : Int32} {st : AS} {v : Int32} {s' : AS} (l_a0 : ly κ a0 = (11, 15)) (h : f_X_fold κ a0 x1 x2 x3 st = some (v, s')) (k : F v s') : C κ M_X_fold [.ref a0, .int x1, .int x2, .int x3] st (RI F) := by
  unfold f_X_fold at h
  refine e_X_fold ?_
  obtain ⟨v1, h6, h⟩ := bnd_some h
  refine b_X_fold_0 (l_a0 := l_a0) (k1 := t_Pl_get (co11 21 5 3 rfl l_a0) h6 ?_)
  rcases v1 with _ | c2
  · replace h := nul_n h
    exact b_X_fold_8_N  (k1 := lfI h k)
  · obtain ⟨l3, h⟩ := grd_some (nul_s h)
    refine b_X_fold_8_R  (k1 := t_X_within  rfl ?_)
    refine b_X_fold_22  (k1 := fun e7 => ?_) (k2 := fun e7 => ?_)
    · replace h := if_f e7 h
      obtain ⟨v4, s5, h8, h⟩ := bnd2_some h
      refine b_X_fold_27 (l_a4 := l3) (k1 := t_Sh_crease l3 h8 ?_)
      exact b_X_fold_34  (k1 := lfI h k)
    · replace h := if_t e7 h
      exact b_X_fold_25  (k1 := lfI h k)
noncomputable def L_Sh_changeSides_20 (κ : Ko) (k_88 : Nat → AS → Option AS) : Nat → Nat → Int32 → AS → Option AS
  | 0, _, _, _ => none
  | d + 1, a0, x2, st => if (gi st a0 11) ≤ x2 then k_88 a0 st else bnd (f_Sh_facetPart κ a0 x2 (0 : Int32) st) (fun v1 => bnd (f_Sh_facetPart κ a0 x2 (2 : Int32) st) (fun v2 => bnd (f_Sh_facetPart κ a0 x2 (1 : Int32) st) (fun v3 => bnd (f_Sh_putFacet κ a0 x2 (0 : Int32) v3 st) (fun s4 => bnd (f_Sh_putFacet κ a0 x2 (1 : Int32) v1 s4) (fun s5 => bnd (f_Sh_facetPart κ a0 x2 (3 : Int32) s5) (fun v6 => bnd (f_Sh_putFacet κ a0 x2 (2 : Int32) v6 s5) (fun s7 => bnd (f_Sh_putFacet κ a0 x2 (3 : Int32) v2 s7) (fun s8 => L_Sh_changeSides_20 κ k_88 d a0 (x2 + 1) s8))))))))
noncomputable def L_Sh_changeSides_90 (κ : Ko) : Nat → Nat → Int32 → AS → Option AS
  | 0, _, _, _ => none
  | d + 1, a0, x2, st => if (gi st a0 12) ≤ x2 then some st else bnd (f_Sh_ridgePart κ a0 x2 (0 : Int32) st) (fun v21 => bnd (f_Sh_putRidge κ a0 x2 (0 : Int32) (if v21 = 0 then (1 : Int32) else (0 : Int32) : Int32) st) (fun s22 => L_Sh_changeSides_90 κ  d a0 (x2 + 1) s22))
noncomputable def f_Sh_changeSides (κ : Ko) (a0 : Nat) (st : AS) : Option AS := L_Sh_changeSides_20 κ (fun (v18 : Nat) (s20 : AS) => L_Sh_changeSides_90 κ  FU v18 (0 : Int32) s20) FU a0 (0 : Int32) (ui (ui st a0 8 (gi st a0 9)) a0 9 (gi st a0 8))
theorem l_Sh_changeSides_20 {κ : Ko} {F : AS → Prop} {s' : AS} (k : F s') {k_88 : Nat → AS → Option AS} (hk_88 : ∀ (a0 : Nat) (st : AS), ly κ a0 = (8, 14) → k_88 a0 st = some s' → V κ M_Sh_changeSides (RV F) 88 [some (.ref a0), none, none, none, none] [] st) : ∀ (d : Nat) (a0 : Nat) (x2 : Int32) (st : AS), ly κ a0 = (8, 14) → L_Sh_changeSides_20 κ k_88 d a0 x2 st = some s' → V κ M_Sh_changeSides (RV F) 20 [some (.ref a0), none, some (.int x2), none, none] [] st := by
  intro d
  induction d with
  | zero =>
    intro a0 x2 st l_a0 h
    exact nn_some h
  | succ d ih =>
    intro a0 x2 st l_a0 h
    rw [L_Sh_changeSides_20] at h
    refine b_Sh_changeSides_20 (l_a0 := l_a0) (k1 := fun e9 => ?_) (k2 := fun e9 => ?_)
    · replace h := if_t e9 h
      exact hk_88 _ _ l_a0 h
    · replace h := if_f e9 h
      obtain ⟨v1, h10, h⟩ := bnd_some h
      refine b_Sh_changeSides_28 (l_a0 := l_a0) (k1 := t_Sh_facetPart l_a0 h10 ?_)
      obtain ⟨v2, h11, h⟩ := bnd_some h
      refine b_Sh_changeSides_34 (l_a0 := l_a0) (k1 := t_Sh_facetPart l_a0 h11 ?_)
      obtain ⟨v3, h12, h⟩ := bnd_some h
      refine b_Sh_changeSides_41 (l_a0 := l_a0) (k1 := t_Sh_facetPart l_a0 h12 ?_)
      obtain ⟨s4, h13, h⟩ := bnd_some h
      refine b_Sh_changeSides_52 (l_c0 := l_a0) (k1 := t_Sh_putFacet l_a0 h13 ?_)
      obtain ⟨s5, h14, h⟩ := bnd_some h
      refine b_Sh_changeSides_55 (l_a0 := l_a0) (k1 := t_Sh_putFacet l_a0 h14 ?_)
      obtain ⟨v6, h15, h⟩ := bnd_some h
      refine b_Sh_changeSides_62 (l_a0 := l_a0) (k1 := t_Sh_facetPart l_a0 h15 ?_)
      obtain ⟨s7, h16, h⟩ := bnd_some h
      refine b_Sh_changeSides_71 (l_c0 := l_a0) (k1 := t_Sh_putFacet l_a0 h16 ?_)
      obtain ⟨s8, h17, h⟩ := bnd_some h
      refine b_Sh_changeSides_74 (l_a0 := l_a0) (k1 := t_Sh_putFacet l_a0 h17 ?_)
      refine b_Sh_changeSides_82  (k1 := ?_)
      exact ih _ _ _ l_a0 h
theorem l_Sh_changeSides_90 {κ : Ko} {F : AS → Prop} {s' : AS} (k : F s') : ∀ (d : Nat) (a0 : Nat) (x2 : Int32) (st : AS), ly κ a0 = (8, 14) → L_Sh_changeSides_90 κ  d a0 x2 st = some s' → V κ M_Sh_changeSides (RV F) 90 [some (.ref a0), none, some (.int x2), none, none] [] st := by
  intro d
  induction d with
  | zero =>
    intro a0 x2 st l_a0 h
    exact nn_some h
  | succ d ih =>
    intro a0 x2 st l_a0 h
    rw [L_Sh_changeSides_90] at h
    refine b_Sh_changeSides_90 (l_a0 := l_a0) (k1 := fun e23 => ?_) (k2 := fun e23 => ?_)
    · replace h := if_t e23 h
      exact b_Sh_changeSides_124  (k1 := lfV h k)
    · replace h := if_f e23 h
      obtain ⟨v21, h24, h⟩ := bnd_some h
      refine b_Sh_changeSides_98 (l_a0 := l_a0) (k1 := t_Sh_ridgePart l_a0 h24 ?_)
      have K26 : V κ M_Sh_changeSides (RV F) 115 [some (.ref a0), none, some (.int x2), none, none] [.int (if v21 = 0 then (1 : Int32) else (0 : Int32) : Int32), .int (0 : Int32), .int x2, .ref a0] st := by
        obtain ⟨s22, h27, h⟩ := bnd_some h
        refine b_Sh_changeSides_115 (l_c0 := l_a0) (k1 := t_Sh_putRidge l_a0 h27 ?_)
        refine b_Sh_changeSides_118  (k1 := ?_)
        exact ih _ _ _ l_a0 h
      refine b_Sh_changeSides_107  (k1 := fun e28 => ?_) (k2 := fun e28 => ?_)
      · refine b_Sh_changeSides_114  (k1 := ?_)
        exact (ite_f (P := fun z => V κ M_Sh_changeSides (RV F) 115 [some (.ref a0), none, some (.int x2), none, none] [.int z, .int (0 : Int32), .int x2, .ref a0] st) e28 K26)
      · refine b_Sh_changeSides_110  (k1 := ?_)
        exact (ite_t (P := fun z => V κ M_Sh_changeSides (RV F) 115 [some (.ref a0), none, some (.int x2), none, none] [.int z, .int (0 : Int32), .int x2, .ref a0] st) e28 K26)
theorem t_Sh_changeSides {κ : Ko} {F : AS → Prop} {a0 : Nat} {st : AS} {s' : AS} (l_a0 : ly κ a0 = (8, 14)) (h : f_Sh_changeSides κ a0 st = some s') (k : F s') : C κ M_Sh_changeSides [.ref a0] st (RV F) := by
  unfold f_Sh_changeSides at h
  refine e_Sh_changeSides ?_
  refine b_Sh_changeSides_0 (l_a0 := l_a0) (k1 := ?_)
  refine l_Sh_changeSides_20 k ?_ FU _ _ _ l_a0 h
  · intro v18 s20 l19 h
    refine b_Sh_changeSides_88  (k1 := ?_)
    refine l_Sh_changeSides_90 k FU _ _ _ l19 h
noncomputable def f_X_turn (κ : Ko) (a0 : Nat) (x1 : Int32) (st : AS) : Option (Int32 × AS) := bnd (f_Pl_get κ (a0 + 21) x1 st) (fun v1 => nul v1 (some ((0 : Int32), st)) (fun c2 => grd (ly κ c2 = (8, 14)) (bnd (f_Sh_changeSides κ c2 st) (fun s4 => some ((1 : Int32), s4)))))
theorem t_X_turn {κ : Ko} {F : Int32 → AS → Prop} {a0 : Nat} {x1 : Int32} {st : AS} {v : Int32} {s' : AS} (l_a0 : ly κ a0 = (11, 15)) (h : f_X_turn κ a0 x1 st = some (v, s')) (k : F v s') : C κ M_X_turn [.ref a0, .int x1] st (RI F) := by
  unfold f_X_turn at h
  refine e_X_turn ?_
  obtain ⟨v1, h5, h⟩ := bnd_some h
  refine b_X_turn_0 (l_a0 := l_a0) (k1 := t_Pl_get (co11 21 5 3 rfl l_a0) h5 ?_)
  rcases v1 with _ | c2
  · replace h := nul_n h
    exact b_X_turn_8_N  (k1 := lfI h k)
  · obtain ⟨l3, h⟩ := grd_some (nul_s h)
    obtain ⟨s4, h6, h⟩ := bnd_some h
    refine b_X_turn_8_R (l_c0 := l3) (k1 := t_Sh_changeSides l3 h6 ?_)
    exact b_X_turn_19  (k1 := lfI h k)
noncomputable def f_X_doingAt (κ : Ko) (a0 : Nat) (x1 : Int32) (st : AS) : Option (Option Nat) := jn (some none) fun j5 => if (wi ((x1 : Int32).toInt64) (0 : Int64) (((gat (gi st (a0 + 7)) 4 (1 : Int32)) - 1 : Int32).toInt64)) = 0 then j5 else if 6 ≤ x1 then j5 else grd (vp_in x1 6) (bnd (gr st (a0 + 9) (x1 : Int32).toNatClampNeg) (fun c3 => grd (ly κ c3 = (2, 5)) (some (some c3))))
theorem t_X_doingAt {κ : Ko} {F : Value → AS → Prop} {a0 : Nat} {x1 : Int32} {st : AS} {v : Option Nat} (l_a0 : ly κ a0 = (11, 15)) (h : f_X_doingAt κ a0 x1 st = some v) (k : F (vof v) st) : C κ M_X_doingAt [.ref a0, .int x1] st (RR F) := by
  unfold f_X_doingAt at h
  refine e_X_doingAt ?_
  refine b_X_doingAt_0 (l_a0 := l_a0) (k1 := t_X_at (co11 7 50 4 rfl l_a0) rfl ?_)
  refine b_X_doingAt_11  (k1 := t_X_within  rfl ?_)
  obtain ⟨j5, hdj5, h⟩ := jn_some h
  have hj5 : j5 = some v → V κ M_X_doingAt (RR F) 38 [none, none] [] st := by
    intro h
    rw [hdj5] at h
    exact b_X_doingAt_38  (k1 := lfR0P h k)
  clear hdj5
  refine b_X_doingAt_17  (k1 := fun e6 => ?_) (k2 := fun e6 => ?_)
  · replace h := if_t e6 h
    exact hj5  h
  · replace h := if_f e6 h
    refine b_X_doingAt_20 (l_a0 := l_a0) (k1 := fun e7 => ?_) (k2 := fun e7 => ?_)
    · replace h := if_t e7 h
      exact hj5  h
    · replace h := if_f e7 h
      obtain ⟨h1, h⟩ := grd_some h
      obtain ⟨c3, h2, h⟩ := bnd_some h
      obtain ⟨l4, h⟩ := grd_some h
      exact b_X_doingAt_29 (l_a0 := l_a0) (b1 := h1) (g2 := h2) (k3 := lfR1P h k)
noncomputable def L_Dg_doTo_25 (κ : Ko) (k_115 : Nat → Nat → Int32 → Int32 → AS → Option (Int32 × AS)) : Nat → Nat → Nat → Int32 → Int32 → Int32 → Int32 → AS → Option (Int32 × AS)
  | 0, _, _, _, _, _, _, _ => none
  | d + 1, a0, a1, x2, x3, x4, x5, st => if (gat (gi st (a0 + 3)) 12 x3) ≤ x5 then k_115 a0 a1 x2 x3 st else jn (fun (v7 : Int32) (s8 : AS) => if v7 = ((-1)) then some (x2, s8) else L_Dg_doTo_25 κ k_115 d a0 a1 (x2 + 1) x3 x4 (x5 + 1) s8) fun j6 => if x4 = 0 then bnd2 (f_Sh_crush κ a1 (gat (gi st (a0 + 2)) 12 x3) st) (fun v4 s5 => j6 v4 s5) else if x4 = 1 then bnd2 (f_Sh_crease κ a1 (gat (gi st (a0 + 4)) 12 x3) (gat (gi st (a0 + 2)) 12 x3) st) (fun v2 s3 => j6 v2 s3) else bnd (f_Sh_changeSides κ a1 st) (fun s1 => j6 (0 : Int32) s1)
noncomputable def L_Dg_doTo_4 (κ : Ko) : Nat → Nat → Nat → Int32 → Int32 → AS → Option (Int32 × AS)
  | 0, _, _, _, _, _ => none
  | d + 1, a0, a1, x2, x3, st => if (gi st a0 4) ≤ x3 then some (x2, st) else L_Dg_doTo_25 κ (fun (v16 : Nat) (v18 : Nat) (v20 : Int32) (v21 : Int32) (s22 : AS) => L_Dg_doTo_4 κ  d v16 v18 v20 (v21 + 1) s22) FU a0 a1 x2 x3 (gat (gi st (a0 + 1)) 12 x3) (0 : Int32) st
noncomputable def f_Dg_doTo (κ : Ko) (a0 : Nat) (a1 : Nat) (st : AS) : Option (Int32 × AS) := L_Dg_doTo_4 κ  FU a0 a1 (0 : Int32) (0 : Int32) st
theorem l_Dg_doTo_25 {κ : Ko} {F : Int32 → AS → Prop} {v : Int32} {s' : AS} (k : F v s') {k_115 : Nat → Nat → Int32 → Int32 → AS → Option (Int32 × AS)} (hk_115 : ∀ (a0 : Nat) (a1 : Nat) (x2 : Int32) (x3 : Int32) (st : AS), ly κ a0 = (2, 5) → ly κ a1 = (8, 14) → k_115 a0 a1 x2 x3 st = some (v, s') → V κ M_Dg_doTo (RI F) 115 [some (.ref a0), some (.ref a1), some (.int x2), some (.int x3), none, none, none] [] st) : ∀ (d : Nat) (a0 : Nat) (a1 : Nat) (x2 : Int32) (x3 : Int32) (x4 : Int32) (x5 : Int32) (st : AS), ly κ a0 = (2, 5) → ly κ a1 = (8, 14) → L_Dg_doTo_25 κ k_115 d a0 a1 x2 x3 x4 x5 st = some (v, s') → V κ M_Dg_doTo (RI F) 25 [some (.ref a0), some (.ref a1), some (.int x2), some (.int x3), some (.int x4), some (.int x5), none] [] st := by
  intro d
  induction d with
  | zero =>
    intro a0 a1 x2 x3 x4 x5 st l_a0 l_a1 h
    exact nn_some h
  | succ d ih =>
    intro a0 a1 x2 x3 x4 x5 st l_a0 l_a1 h
    rw [L_Dg_doTo_25] at h
    refine b_Dg_doTo_25 (l_a0 := l_a0) (k1 := t_X_at (co2 3 50 12 rfl l_a0) rfl ?_)
    refine b_Dg_doTo_35  (k1 := fun e9 => ?_) (k2 := fun e9 => ?_)
    · replace h := if_t e9 h
      exact hk_115 _ _ _ _ _ l_a0 l_a1 h
    · replace h := if_f e9 h
      obtain ⟨j6, hdj6, h⟩ := jn_some h
      have hj6 : ∀ (v7 : Int32) (s8 : AS), j6 v7 s8 = some (v, s') → V κ M_Dg_doTo (RI F) 98 [some (.ref a0), some (.ref a1), some (.int x2), some (.int x3), some (.int x4), some (.int x5), some (.int v7)] [] s8 := by
        intro v7 s8 h
        rw [hdj6] at h
        refine b_Dg_doTo_98  (k1 := fun e10 => ?_) (k2 := fun e10 => ?_)
        · replace h := if_f e10 h
          refine b_Dg_doTo_106  (k1 := ?_)
          exact ih _ _ _ _ _ _ _ l_a0 l_a1 h
        · replace h := if_t e10 h
          exact b_Dg_doTo_104  (k1 := lfI h k)
      clear hdj6
      refine b_Dg_doTo_38  (k1 := fun e11 => ?_) (k2 := fun e11 => ?_)
      · replace h := if_f e11 h
        refine b_Dg_doTo_63  (k1 := fun e12 => ?_) (k2 := fun e12 => ?_)
        · replace h := if_f e12 h
          obtain ⟨s1, h13, h⟩ := bnd_some h
          refine b_Dg_doTo_94 (l_a1 := l_a1) (k1 := t_Sh_changeSides l_a1 h13 ?_)
          exact hj6 _ _  h
        · replace h := if_t e12 h
          refine b_Dg_doTo_69 (l_a0 := l_a0) (k1 := t_X_at (co2 4 50 12 rfl l_a0) rfl ?_)
          refine b_Dg_doTo_78 (l_a0 := l_a0) (k1 := t_X_at (co2 2 50 12 rfl l_a0) rfl ?_)
          obtain ⟨v2, s3, h14, h⟩ := bnd2_some h
          refine b_Dg_doTo_86 (l_c0 := l_a1) (k1 := t_Sh_crease l_a1 h14 ?_)
          refine b_Dg_doTo_89  (k1 := ?_)
          exact hj6 _ _  h
      · replace h := if_t e11 h
        refine b_Dg_doTo_46 (l_a0 := l_a0) (k1 := t_X_at (co2 2 50 12 rfl l_a0) rfl ?_)
        obtain ⟨v4, s5, h15, h⟩ := bnd2_some h
        refine b_Dg_doTo_55 (l_c0 := l_a1) (k1 := t_Sh_crush l_a1 h15 ?_)
        refine b_Dg_doTo_58  (k1 := ?_)
        exact hj6 _ _  h
theorem l_Dg_doTo_4 {κ : Ko} {F : Int32 → AS → Prop} {v : Int32} {s' : AS} (k : F v s') : ∀ (d : Nat) (a0 : Nat) (a1 : Nat) (x2 : Int32) (x3 : Int32) (st : AS), ly κ a0 = (2, 5) → ly κ a1 = (8, 14) → L_Dg_doTo_4 κ  d a0 a1 x2 x3 st = some (v, s') → V κ M_Dg_doTo (RI F) 4 [some (.ref a0), some (.ref a1), some (.int x2), some (.int x3), none, none, none] [] st := by
  intro d
  induction d with
  | zero =>
    intro a0 a1 x2 x3 st l_a0 l_a1 h
    exact nn_some h
  | succ d ih =>
    intro a0 a1 x2 x3 st l_a0 l_a1 h
    rw [L_Dg_doTo_4] at h
    refine b_Dg_doTo_4 (l_a0 := l_a0) (k1 := fun e23 => ?_) (k2 := fun e23 => ?_)
    · replace h := if_t e23 h
      exact b_Dg_doTo_121  (k1 := lfI h k)
    · replace h := if_f e23 h
      refine b_Dg_doTo_12 (l_a0 := l_a0) (k1 := t_X_at (co2 1 50 12 rfl l_a0) rfl ?_)
      refine b_Dg_doTo_20  (k1 := ?_)
      refine l_Dg_doTo_25 k ?_ FU _ _ _ _ _ _ _ l_a0 l_a1 h
      · intro v16 v18 v20 v21 s22 l17 l19 h
        refine b_Dg_doTo_115  (k1 := ?_)
        exact ih _ _ _ _ _ l17 l19 h
theorem t_Dg_doTo {κ : Ko} {F : Int32 → AS → Prop} {a0 : Nat} {a1 : Nat} {st : AS} {v : Int32} {s' : AS} (l_a0 : ly κ a0 = (2, 5)) (l_a1 : ly κ a1 = (8, 14)) (h : f_Dg_doTo κ a0 a1 st = some (v, s')) (k : F v s') : C κ M_Dg_doTo [.ref a0, .ref a1] st (RI F) := by
  unfold f_Dg_doTo at h
  refine e_Dg_doTo ?_
  refine b_Dg_doTo_0  (k1 := ?_)
  refine l_Dg_doTo_4 k FU _ _ _ _ _ l_a0 l_a1 h
noncomputable def f_X_done (κ : Ko) (a0 : Nat) (x1 : Int32) (x2 : Int32) (st : AS) : Option (Int32 × AS) := bnd (f_X_doingAt κ a0 x1 st) (fun v1 => nul v1 (bnd (f_Pl_get κ (a0 + 21) x2 st) (fun v9 => nul v9 (some (((-1) : Int32), st)) (fun c10 => grd (ly κ c10 = (8, 14)) (some (((-1) : Int32), st))))) (fun c2 => grd (ly κ c2 = (2, 5)) (bnd (f_Pl_get κ (a0 + 21) x2 st) (fun v4 => nul v4 (some (((-1) : Int32), st)) (fun c5 => grd (ly κ c5 = (8, 14)) (bnd2 (f_Dg_doTo κ c2 c5 st) (fun v7 s8 => some (v7, s8))))))))
theorem t_X_done {κ : Ko} {F : Int32 → AS → Prop} {a0 : Nat} {x1 : Int32} {x2 : Int32} {st : AS} {v : Int32} {s' : AS} (l_a0 : ly κ a0 = (11, 15)) (h : f_X_done κ a0 x1 x2 st = some (v, s')) (k : F v s') : C κ M_X_done [.ref a0, .int x1, .int x2] st (RI F) := by
  unfold f_X_done at h
  refine e_X_done ?_
  obtain ⟨v1, h12, h⟩ := bnd_some h
  refine b_X_done_0 (l_a0 := l_a0) (k1 := t_X_doingAt l_a0 h12 ?_)
  rcases v1 with _ | c2
  · replace h := nul_n h
    obtain ⟨v9, h13, h⟩ := bnd_some h
    refine b_X_done_5_RN (l_a0 := l_a0) (k1 := t_Pl_get (co11 21 5 3 rfl l_a0) h13 ?_)
    rcases v9 with _ | c10
    · replace h := nul_n h
      exact b_X_done_14_NN  (k1 := lfI h k)
    · obtain ⟨l11, h⟩ := grd_some (nul_s h)
      exact b_X_done_14_NR  (k1 := lfI h k)
  · obtain ⟨l3, h⟩ := grd_some (nul_s h)
    obtain ⟨v4, h14, h⟩ := bnd_some h
    refine b_X_done_5_RR (l_a0 := l_a0) (k1 := t_Pl_get (co11 21 5 3 rfl l_a0) h14 ?_)
    rcases v4 with _ | c5
    · replace h := nul_n h
      exact b_X_done_14_RN  (k1 := lfI h k)
    · obtain ⟨l6, h⟩ := grd_some (nul_s h)
      obtain ⟨v7, s8, h15, h⟩ := bnd2_some h
      refine b_X_done_14_RR (l_a3 := l3) (k1 := t_Dg_doTo l3 l6 h15 ?_)
      exact b_X_done_33  (k1 := lfI h k)
noncomputable def f_Sh_facetCount (κ : Ko) (a0 : Nat) (st : AS) : Int32 := (gi st a0 11)
theorem t_Sh_facetCount {κ : Ko} {F : Int32 → AS → Prop} {a0 : Nat} {st : AS} {v : Int32} (l_a0 : ly κ a0 = (8, 14)) (h : f_Sh_facetCount κ a0 st = v) (k : F v st) : C κ M_Sh_facetCount [.ref a0] st (RI F) := by
  unfold f_Sh_facetCount at h
  refine e_Sh_facetCount ?_
  exact b_Sh_facetCount_0 (l_a0 := l_a0) (k1 := lfIPT h k)
noncomputable def f_X_facet (κ : Ko) (a0 : Nat) (x1 : Int32) (x2 : Int32) (x3 : Int32) (st : AS) : Option Int32 := bnd (f_Pl_get κ (a0 + 21) x1 st) (fun v1 => nul v1 (some ((-1) : Int32)) (fun c2 => grd (ly κ c2 = (8, 14)) (jn (some ((-1) : Int32)) fun j6 => if (wi ((x2 : Int32).toInt64) (0 : Int64) (((f_Sh_facetCount κ c2 st) - 1 : Int32).toInt64)) = 0 then j6 else if (wi ((x3 : Int32).toInt64) (0 : Int64) (4 : Int64)) = 0 then j6 else if x3 = 4 then bnd (f_Sh_edgeOf κ c2 x2 st) (fun v5 => some v5) else bnd (f_Sh_facetPart κ c2 x2 x3 st) (fun v4 => some v4))))
theorem t_X_facet {κ : Ko} {F : Int32 → AS → Prop} {a0 : Nat} {x1 : Int32} {x2 : Int32} {x3 : Int32} {st : AS} {v : Int32} (l_a0 : ly κ a0 = (11, 15)) (h : f_X_facet κ a0 x1 x2 x3 st = some v) (k : F v st) : C κ M_X_facet [.ref a0, .int x1, .int x2, .int x3] st (RI F) := by
  unfold f_X_facet at h
  refine e_X_facet ?_
  obtain ⟨v1, h7, h⟩ := bnd_some h
  refine b_X_facet_0 (l_a0 := l_a0) (k1 := t_Pl_get (co11 21 5 3 rfl l_a0) h7 ?_)
  rcases v1 with _ | c2
  · replace h := nul_n h
    exact b_X_facet_8_N  (k1 := lfIP h k)
  · obtain ⟨l3, h⟩ := grd_some (nul_s h)
    refine b_X_facet_8_R (l_c0 := l3) (k1 := t_Sh_facetCount l3 rfl ?_)
    refine b_X_facet_23  (k1 := t_X_within  rfl ?_)
    obtain ⟨j6, hdj6, h⟩ := jn_some h
    have hj6 : j6 = some v → V κ M_X_facet (RI F) 44 [none, none, none, none, none] [] st := by
      intro h
      rw [hdj6] at h
      exact b_X_facet_44  (k1 := lfIP h k)
    clear hdj6
    refine b_X_facet_29  (k1 := fun e8 => ?_) (k2 := fun e8 => ?_)
    · replace h := if_t e8 h
      exact hj6  h
    · replace h := if_f e8 h
      refine b_X_facet_32  (k1 := t_X_within  rfl ?_)
      refine b_X_facet_41  (k1 := fun e9 => ?_) (k2 := fun e9 => ?_)
      · replace h := if_f e9 h
        refine b_X_facet_46  (k1 := fun e10 => ?_) (k2 := fun e10 => ?_)
        · replace h := if_f e10 h
          obtain ⟨v4, h11, h⟩ := bnd_some h
          refine b_X_facet_60 (l_a4 := l3) (k1 := t_Sh_facetPart l3 h11 ?_)
          exact b_X_facet_67  (k1 := lfIP h k)
        · replace h := if_t e10 h
          obtain ⟨v5, h12, h⟩ := bnd_some h
          refine b_X_facet_51 (l_a4 := l3) (k1 := t_Sh_edgeOf l3 h12 ?_)
          exact b_X_facet_57  (k1 := lfIP h k)
      · replace h := if_t e9 h
        exact hj6  h
noncomputable def f_Sh_ridgeCount (κ : Ko) (a0 : Nat) (st : AS) : Int32 := (gi st a0 12)
theorem t_Sh_ridgeCount {κ : Ko} {F : Int32 → AS → Prop} {a0 : Nat} {st : AS} {v : Int32} (l_a0 : ly κ a0 = (8, 14)) (h : f_Sh_ridgeCount κ a0 st = v) (k : F v st) : C κ M_Sh_ridgeCount [.ref a0] st (RI F) := by
  unfold f_Sh_ridgeCount at h
  refine e_Sh_ridgeCount ?_
  exact b_Sh_ridgeCount_0 (l_a0 := l_a0) (k1 := lfIPT h k)
noncomputable def f_X_ridge (κ : Ko) (a0 : Nat) (x1 : Int32) (x2 : Int32) (x3 : Int32) (st : AS) : Option Int32 := bnd (f_Pl_get κ (a0 + 21) x1 st) (fun v1 => nul v1 (some ((-1) : Int32)) (fun c2 => grd (ly κ c2 = (8, 14)) (jn (some ((-1) : Int32)) fun j5 => if (wi ((x2 : Int32).toInt64) (0 : Int64) (((f_Sh_ridgeCount κ c2 st) - 1 : Int32).toInt64)) = 0 then j5 else if (wi ((x3 : Int32).toInt64) (0 : Int64) (6 : Int64)) = 0 then j5 else bnd (f_Sh_ridgePart κ c2 x2 x3 st) (fun v4 => some v4))))
theorem t_X_ridge {κ : Ko} {F : Int32 → AS → Prop} {a0 : Nat} {x1 : Int32} {x2 : Int32} {x3 : Int32} {st : AS} {v : Int32} (l_a0 : ly κ a0 = (11, 15)) (h : f_X_ridge κ a0 x1 x2 x3 st = some v) (k : F v st) : C κ M_X_ridge [.ref a0, .int x1, .int x2, .int x3] st (RI F) := by
  unfold f_X_ridge at h
  refine e_X_ridge ?_
  obtain ⟨v1, h6, h⟩ := bnd_some h
  refine b_X_ridge_0 (l_a0 := l_a0) (k1 := t_Pl_get (co11 21 5 3 rfl l_a0) h6 ?_)
  rcases v1 with _ | c2
  · replace h := nul_n h
    exact b_X_ridge_8_N  (k1 := lfIP h k)
  · obtain ⟨l3, h⟩ := grd_some (nul_s h)
    refine b_X_ridge_8_R (l_c0 := l3) (k1 := t_Sh_ridgeCount l3 rfl ?_)
    refine b_X_ridge_23  (k1 := t_X_within  rfl ?_)
    obtain ⟨j5, hdj5, h⟩ := jn_some h
    have hj5 : j5 = some v → V κ M_X_ridge (RI F) 44 [none, none, none, none, none] [] st := by
      intro h
      rw [hdj5] at h
      exact b_X_ridge_44  (k1 := lfIP h k)
    clear hdj5
    refine b_X_ridge_29  (k1 := fun e7 => ?_) (k2 := fun e7 => ?_)
    · replace h := if_t e7 h
      exact hj5  h
    · replace h := if_f e7 h
      refine b_X_ridge_32  (k1 := t_X_within  rfl ?_)
      refine b_X_ridge_41  (k1 := fun e8 => ?_) (k2 := fun e8 => ?_)
      · replace h := if_f e8 h
        obtain ⟨v4, h9, h⟩ := bnd_some h
        refine b_X_ridge_46 (l_a4 := l3) (k1 := t_Sh_ridgePart l3 h9 ?_)
        exact b_X_ridge_53  (k1 := lfIP h k)
      · replace h := if_t e8 h
        exact hj5  h
noncomputable def f_Lw_isSoft (κ : Ko) (a0 : Nat) (x1 : Int32) (st : AS) : Int32 := (if x1 < (gi st a0 6) then (0 : Int32) else (1 : Int32) : Int32)
theorem t_Lw_isSoft {κ : Ko} {F : Int32 → AS → Prop} {a0 : Nat} {x1 : Int32} {st : AS} {v : Int32} (l_a0 : ly κ a0 = (3, 7)) (h : f_Lw_isSoft κ a0 x1 st = v) (k : F v st) : C κ M_Lw_isSoft [.ref a0, .int x1] st (RI F) := by
  unfold f_Lw_isSoft at h
  refine e_Lw_isSoft ?_
  have K2 : (RI F) (some (.int (if x1 < (gi st a0 6) then (0 : Int32) else (1 : Int32) : Int32))) st := lfIPT h k
  refine b_Lw_isSoft_0 (l_a0 := l_a0) (k1 := fun e3 => ?_) (k2 := fun e3 => ?_)
  · exact b_Lw_isSoft_12  (k1 := (ite_t (P := fun z => (RI F) (some (.int z)) st) e3 K2))
  · exact b_Lw_isSoft_8  (k1 := (ite_f (P := fun z => (RI F) (some (.int z)) st) e3 K2))
noncomputable def f_Sh_isSoft (κ : Ko) (a0 : Nat) (x1 : Int32) (st : AS) : Option Int32 := bnd (gr st a0 4) (fun c2 => grd (ly κ c2 = (3, 7)) (bnd (f_Sh_ridgePart κ a0 x1 (6 : Int32) st) (fun v4 => grd ((f_Lw_isSoft κ c2 v4 st) = 0 ∨ (f_Lw_isSoft κ c2 v4 st) = 1) (some (f_Lw_isSoft κ c2 v4 st)))))
theorem t_Sh_isSoft {κ : Ko} {F : Int32 → AS → Prop} {a0 : Nat} {x1 : Int32} {st : AS} {v : Int32} (l_a0 : ly κ a0 = (8, 14)) (h : f_Sh_isSoft κ a0 x1 st = some v) (k : F v st) : C κ M_Sh_isSoft [.ref a0, .int x1] st (RI F) := by
  unfold f_Sh_isSoft at h
  refine e_Sh_isSoft ?_
  obtain ⟨c2, h1, h⟩ := bnd_some h
  obtain ⟨l3, h⟩ := grd_some h
  obtain ⟨v4, h6, h⟩ := bnd_some h
  refine b_Sh_isSoft_0 (l_a0 := l_a0) (g1 := h1) (k2 := t_Sh_ridgePart l_a0 h6 ?_)
  refine b_Sh_isSoft_11 (l_c0 := l3) (k1 := t_Lw_isSoft l3 rfl ?_)
  obtain ⟨h5, h⟩ := grd_some h
  exact b_Sh_isSoft_14 (nz2 := h5) (k1 := lfIP h k)
noncomputable def L_Sh_softRidges_4 (κ : Ko) (st : AS) : Nat → Nat → Int32 → Int32 → Option Int32
  | 0, _, _, _ => none
  | d + 1, a0, x1, x2 => if (gi st a0 12) ≤ x2 then some x1 else bnd (f_Sh_isSoft κ a0 x2 st) (fun v1 => L_Sh_softRidges_4 κ st  d a0 (if v1 = 0 then x1 + 0 else x1 + 1 : Int32) (x2 + 1))
noncomputable def f_Sh_softRidges (κ : Ko) (a0 : Nat) (st : AS) : Option Int32 := L_Sh_softRidges_4 κ st  FU a0 (0 : Int32) (0 : Int32)
theorem l_Sh_softRidges_4 {κ : Ko} {F : Int32 → AS → Prop} {v : Int32} {st : AS} (k : F v st) : ∀ (d : Nat) (a0 : Nat) (x1 : Int32) (x2 : Int32), ly κ a0 = (8, 14) → L_Sh_softRidges_4 κ st  d a0 x1 x2 = some v → V κ M_Sh_softRidges (RI F) 4 [some (.ref a0), some (.int x1), some (.int x2)] [] st := by
  intro d
  induction d with
  | zero =>
    intro a0 x1 x2 l_a0 h
    exact nn_some h
  | succ d ih =>
    intro a0 x1 x2 l_a0 h
    rw [L_Sh_softRidges_4] at h
    refine b_Sh_softRidges_4 (l_a0 := l_a0) (k1 := fun e2 => ?_) (k2 := fun e2 => ?_)
    · replace h := if_t e2 h
      exact b_Sh_softRidges_34  (k1 := lfIP h k)
    · replace h := if_f e2 h
      obtain ⟨v1, h3, h⟩ := bnd_some h
      refine b_Sh_softRidges_12 (l_a0 := l_a0) (k1 := t_Sh_isSoft l_a0 h3 ?_)
      have K5 : V κ M_Sh_softRidges (RI F) 4 [some (.ref a0), some (.int (if v1 = 0 then x1 + 0 else x1 + 1 : Int32)), some (.int (x2 + 1))] [] st := by
        exact ih _ _ _ l_a0 h
      refine b_Sh_softRidges_18  (k1 := fun e6 => ?_) (k2 := fun e6 => ?_)
      · refine b_Sh_softRidges_25  (k1 := ?_)
        exact (ite_t (P := fun z => V κ M_Sh_softRidges (RI F) 4 [some (.ref a0), some (.int z), some (.int (x2 + 1))] [] st) e6 K5)
      · refine b_Sh_softRidges_21  (k1 := ?_)
        exact (ite_f (P := fun z => V κ M_Sh_softRidges (RI F) 4 [some (.ref a0), some (.int z), some (.int (x2 + 1))] [] st) e6 K5)
theorem t_Sh_softRidges {κ : Ko} {F : Int32 → AS → Prop} {a0 : Nat} {st : AS} {v : Int32} (l_a0 : ly κ a0 = (8, 14)) (h : f_Sh_softRidges κ a0 st = some v) (k : F v st) : C κ M_Sh_softRidges [.ref a0] st (RI F) := by
  unfold f_Sh_softRidges at h
  refine e_Sh_softRidges ?_
  refine b_Sh_softRidges_0  (k1 := ?_)
  refine l_Sh_softRidges_4 k FU _ _ _ l_a0 h
noncomputable def f_Sh_lengthOfAll (κ : Ko) (a0 : Nat) (st : AS) : Option Int32 := bnd (f_Sh_lengthOfRounds κ a0 (0 : Int32) (60 : Int32) st) (fun v1 => some v1)
theorem t_Sh_lengthOfAll {κ : Ko} {F : Int32 → AS → Prop} {a0 : Nat} {st : AS} {v : Int32} (l_a0 : ly κ a0 = (8, 14)) (h : f_Sh_lengthOfAll κ a0 st = some v) (k : F v st) : C κ M_Sh_lengthOfAll [.ref a0] st (RI F) := by
  unfold f_Sh_lengthOfAll at h
  refine e_Sh_lengthOfAll ?_
  obtain ⟨v1, h2, h⟩ := bnd_some h
  refine b_Sh_lengthOfAll_0 (l_a0 := l_a0) (k1 := t_Sh_lengthOfRounds l_a0 h2 ?_)
  exact b_Sh_lengthOfAll_7  (k1 := lfIP h k)
noncomputable def f_Sh_rounds (κ : Ko) (a0 : Nat) (st : AS) : Int32 := (gi st a0 10)
theorem t_Sh_rounds {κ : Ko} {F : Int32 → AS → Prop} {a0 : Nat} {st : AS} {v : Int32} (l_a0 : ly κ a0 = (8, 14)) (h : f_Sh_rounds κ a0 st = v) (k : F v st) : C κ M_Sh_rounds [.ref a0] st (RI F) := by
  unfold f_Sh_rounds at h
  refine e_Sh_rounds ?_
  exact b_Sh_rounds_0 (l_a0 := l_a0) (k1 := lfIPT h k)
noncomputable def f_X_of (κ : Ko) (a0 : Nat) (x1 : Int32) (x2 : Int32) (st : AS) : Option Int32 := bnd (f_Pl_get κ (a0 + 21) x1 st) (fun v1 => nul v1 (some ((-1) : Int32)) (fun c2 => grd (ly κ c2 = (8, 14)) (if x2 = 0 then some (f_Sh_side κ c2 (0 : Int32) st) else if x2 = 1 then some (f_Sh_side κ c2 (1 : Int32) st) else if x2 = 2 then some (f_Sh_rounds κ c2 st) else if x2 = 3 then some (f_Sh_facetCount κ c2 st) else if x2 = 4 then some (f_Sh_ridgeCount κ c2 st) else if x2 = 5 then bnd (f_Sh_lengthOfAll κ c2 st) (fun v4 => some v4) else if x2 = 6 then bnd (f_Sh_softRidges κ c2 st) (fun v5 => some v5) else some ((-1) : Int32))))
theorem t_X_of {κ : Ko} {F : Int32 → AS → Prop} {a0 : Nat} {x1 : Int32} {x2 : Int32} {st : AS} {v : Int32} (l_a0 : ly κ a0 = (11, 15)) (h : f_X_of κ a0 x1 x2 st = some v) (k : F v st) : C κ M_X_of [.ref a0, .int x1, .int x2] st (RI F) := by
  unfold f_X_of at h
  refine e_X_of ?_
  obtain ⟨v1, h6, h⟩ := bnd_some h
  refine b_X_of_0 (l_a0 := l_a0) (k1 := t_Pl_get (co11 21 5 3 rfl l_a0) h6 ?_)
  rcases v1 with _ | c2
  · replace h := nul_n h
    exact b_X_of_8_N  (k1 := lfIP h k)
  · obtain ⟨l3, h⟩ := grd_some (nul_s h)
    refine b_X_of_8_R  (k1 := fun e7 => ?_) (k2 := fun e7 => ?_) (k3 := fun e7 => ?_) (k4 := fun e7 => ?_) (k5 := fun e7 => ?_) (k6 := fun e7 => ?_) (k7 := fun e7 => ?_) (k8 := fun e7 => ?_)
    · replace h := if_t e7 h
      refine b_X_of_60 (l_a3 := l3) (k1 := t_Sh_side l3 rfl ?_)
      exact b_X_of_65  (k1 := lfIP h k)
    · replace h := if_f (fun z => by rw [z] at e7; exact absurd e7 (by decide)) h
      replace h := if_t e7 h
      refine b_X_of_66 (l_a3 := l3) (k1 := t_Sh_side l3 rfl ?_)
      exact b_X_of_71  (k1 := lfIP h k)
    · replace h := if_f (fun z => by rw [z] at e7; exact absurd e7 (by decide)) h
      replace h := if_f (fun z => by rw [z] at e7; exact absurd e7 (by decide)) h
      replace h := if_t e7 h
      refine b_X_of_72 (l_a3 := l3) (k1 := t_Sh_rounds l3 rfl ?_)
      exact b_X_of_76  (k1 := lfIP h k)
    · replace h := if_f (fun z => by rw [z] at e7; exact absurd e7 (by decide)) h
      replace h := if_f (fun z => by rw [z] at e7; exact absurd e7 (by decide)) h
      replace h := if_f (fun z => by rw [z] at e7; exact absurd e7 (by decide)) h
      replace h := if_t e7 h
      refine b_X_of_77 (l_a3 := l3) (k1 := t_Sh_facetCount l3 rfl ?_)
      exact b_X_of_81  (k1 := lfIP h k)
    · replace h := if_f (fun z => by rw [z] at e7; exact absurd e7 (by decide)) h
      replace h := if_f (fun z => by rw [z] at e7; exact absurd e7 (by decide)) h
      replace h := if_f (fun z => by rw [z] at e7; exact absurd e7 (by decide)) h
      replace h := if_f (fun z => by rw [z] at e7; exact absurd e7 (by decide)) h
      replace h := if_t e7 h
      refine b_X_of_82 (l_a3 := l3) (k1 := t_Sh_ridgeCount l3 rfl ?_)
      exact b_X_of_86  (k1 := lfIP h k)
    · replace h := if_f (fun z => by rw [z] at e7; exact absurd e7 (by decide)) h
      replace h := if_f (fun z => by rw [z] at e7; exact absurd e7 (by decide)) h
      replace h := if_f (fun z => by rw [z] at e7; exact absurd e7 (by decide)) h
      replace h := if_f (fun z => by rw [z] at e7; exact absurd e7 (by decide)) h
      replace h := if_f (fun z => by rw [z] at e7; exact absurd e7 (by decide)) h
      replace h := if_t e7 h
      obtain ⟨v4, h8, h⟩ := bnd_some h
      refine b_X_of_87 (l_a3 := l3) (k1 := t_Sh_lengthOfAll l3 h8 ?_)
      exact b_X_of_91  (k1 := lfIP h k)
    · replace h := if_f (fun z => by rw [z] at e7; exact absurd e7 (by decide)) h
      replace h := if_f (fun z => by rw [z] at e7; exact absurd e7 (by decide)) h
      replace h := if_f (fun z => by rw [z] at e7; exact absurd e7 (by decide)) h
      replace h := if_f (fun z => by rw [z] at e7; exact absurd e7 (by decide)) h
      replace h := if_f (fun z => by rw [z] at e7; exact absurd e7 (by decide)) h
      replace h := if_f (fun z => by rw [z] at e7; exact absurd e7 (by decide)) h
      replace h := if_t e7 h
      obtain ⟨v5, h9, h⟩ := bnd_some h
      refine b_X_of_92 (l_a3 := l3) (k1 := t_Sh_softRidges l3 h9 ?_)
      exact b_X_of_96  (k1 := lfIP h k)
    · replace h := if_f (fun z => by rw [z] at e7; exact absurd e7 (by decide)) h
      replace h := if_f (fun z => by rw [z] at e7; exact absurd e7 (by decide)) h
      replace h := if_f (fun z => by rw [z] at e7; exact absurd e7 (by decide)) h
      replace h := if_f (fun z => by rw [z] at e7; exact absurd e7 (by decide)) h
      replace h := if_f (fun z => by rw [z] at e7; exact absurd e7 (by decide)) h
      replace h := if_f (fun z => by rw [z] at e7; exact absurd e7 (by decide)) h
      replace h := if_f (fun z => by rw [z] at e7; exact absurd e7 (by decide)) h
      exact b_X_of_97  (k1 := lfIP h k)
noncomputable def f_X_length (κ : Ko) (a0 : Nat) (x1 : Int32) (x2 : Int32) (st : AS) : Option Int32 := bnd (f_Pl_get κ (a0 + 21) x1 st) (fun v1 => nul v1 (some ((-1) : Int32)) (fun c2 => grd (ly κ c2 = (8, 14)) (if (wi ((x2 : Int32).toInt64) (0 : Int64) (60 : Int64)) = 0 then some ((-1) : Int32) else bnd (f_Sh_lengthOfRounds κ c2 (0 : Int32) x2 st) (fun v4 => some v4))))
theorem t_X_length {κ : Ko} {F : Int32 → AS → Prop} {a0 : Nat} {x1 : Int32} {x2 : Int32} {st : AS} {v : Int32} (l_a0 : ly κ a0 = (11, 15)) (h : f_X_length κ a0 x1 x2 st = some v) (k : F v st) : C κ M_X_length [.ref a0, .int x1, .int x2] st (RI F) := by
  unfold f_X_length at h
  refine e_X_length ?_
  obtain ⟨v1, h5, h⟩ := bnd_some h
  refine b_X_length_0 (l_a0 := l_a0) (k1 := t_Pl_get (co11 21 5 3 rfl l_a0) h5 ?_)
  rcases v1 with _ | c2
  · replace h := nul_n h
    exact b_X_length_8_N  (k1 := lfIP h k)
  · obtain ⟨l3, h⟩ := grd_some (nul_s h)
    refine b_X_length_8_R  (k1 := t_X_within  rfl ?_)
    refine b_X_length_22  (k1 := fun e6 => ?_) (k2 := fun e6 => ?_)
    · replace h := if_f e6 h
      obtain ⟨v4, h7, h⟩ := bnd_some h
      refine b_X_length_27 (l_a3 := l3) (k1 := t_Sh_lengthOfRounds l3 h7 ?_)
      exact b_X_length_33  (k1 := lfIP h k)
    · replace h := if_t e6 h
      exact b_X_length_25  (k1 := lfIP h k)
noncomputable def f_X_adds (κ : Ko) (a0 : Nat) (x1 : Int32) (x2 : Int32) (st : AS) : Option Int32 := bnd (f_Pl_get κ (a0 + 21) x1 st) (fun v1 => nul v1 (some ((-1) : Int32)) (fun c2 => grd (ly κ c2 = (8, 14)) (if (wi ((x2 : Int32).toInt64) (0 : Int64) (60 : Int64)) = 0 then some ((-1) : Int32) else bnd (f_Sh_lengthOfRounds κ c2 x2 x2 st) (fun v4 => some v4))))
theorem t_X_adds {κ : Ko} {F : Int32 → AS → Prop} {a0 : Nat} {x1 : Int32} {x2 : Int32} {st : AS} {v : Int32} (l_a0 : ly κ a0 = (11, 15)) (h : f_X_adds κ a0 x1 x2 st = some v) (k : F v st) : C κ M_X_adds [.ref a0, .int x1, .int x2] st (RI F) := by
  unfold f_X_adds at h
  refine e_X_adds ?_
  obtain ⟨v1, h5, h⟩ := bnd_some h
  refine b_X_adds_0 (l_a0 := l_a0) (k1 := t_Pl_get (co11 21 5 3 rfl l_a0) h5 ?_)
  rcases v1 with _ | c2
  · replace h := nul_n h
    exact b_X_adds_8_N  (k1 := lfIP h k)
  · obtain ⟨l3, h⟩ := grd_some (nul_s h)
    refine b_X_adds_8_R  (k1 := t_X_within  rfl ?_)
    refine b_X_adds_22  (k1 := fun e6 => ?_) (k2 := fun e6 => ?_)
    · replace h := if_f e6 h
      obtain ⟨v4, h7, h⟩ := bnd_some h
      refine b_X_adds_27 (l_a3 := l3) (k1 := t_Sh_lengthOfRounds l3 h7 ?_)
      exact b_X_adds_33  (k1 := lfIP h k)
    · replace h := if_t e6 h
      exact b_X_adds_25  (k1 := lfIP h k)
noncomputable def L_Sh_expectedBreaks_6 (κ : Ko) : Nat → Nat → Int32 → Int32 → Int32 → Int32 → Int32 → AS → Option (Int32 × AS)
  | 0, _, _, _, _, _, _, _ => none
  | d + 1, a0, x1, x2, x3, x4, x5, st => if (gi st a0 11) ≤ x5 then some (x4, st) else bnd (f_Sh_longOf κ a0 x5 st) (fun v1 => if v1 < 2 then L_Sh_expectedBreaks_6 κ  d a0 x1 x2 x3 x4 (x5 + 1) st else bnd (f_Sh_fillWords κ a0 x5 x1 ((gi st a0 10) + 1) x2 st) (fun s2 => bnd (gr s2 a0 4) (fun c4 => grd (ly κ c4 = (3, 7)) (bnd2 (f_Lw_tells κ c4 (0 : Int32) (a0 + 4) 8 (0 : Int32) (1000 : Int32) (0 : Int32) s2) (fun v6 s7 => if x3 = 0 then L_Sh_expectedBreaks_6 κ  d a0 x1 x2 x3 (x4 + (v6 * 1)) (x5 + 1) s7 else bnd (f_Sh_shortOf κ a0 x5 s7) (fun v8 => L_Sh_expectedBreaks_6 κ  d a0 x1 x2 x3 (x4 + (v6 * v8)) (x5 + 1) s7))))))
noncomputable def f_Sh_expectedBreaks (κ : Ko) (a0 : Nat) (x1 : Int32) (x2 : Int32) (x3 : Int32) (st : AS) : Option (Int32 × AS) := L_Sh_expectedBreaks_6 κ  FU a0 x1 x2 x3 (0 : Int32) (0 : Int32) st
theorem l_Sh_expectedBreaks_6 {κ : Ko} {F : Int32 → AS → Prop} {v : Int32} {s' : AS} (k : F v s') : ∀ (d : Nat) (a0 : Nat) (x1 : Int32) (x2 : Int32) (x3 : Int32) (x4 : Int32) (x5 : Int32) (st : AS), ly κ a0 = (8, 14) → L_Sh_expectedBreaks_6 κ  d a0 x1 x2 x3 x4 x5 st = some (v, s') → V κ M_Sh_expectedBreaks (RI F) 6 [some (.ref a0), some (.int x1), some (.int x2), some (.int x3), some (.int x4), some (.int x5)] [] st := by
  intro d
  induction d with
  | zero =>
    intro a0 x1 x2 x3 x4 x5 st l_a0 h
    exact nn_some h
  | succ d ih =>
    intro a0 x1 x2 x3 x4 x5 st l_a0 h
    rw [L_Sh_expectedBreaks_6] at h
    refine b_Sh_expectedBreaks_6 (l_a0 := l_a0) (k1 := fun e9 => ?_) (k2 := fun e9 => ?_)
    · replace h := if_t e9 h
      exact b_Sh_expectedBreaks_82  (k1 := lfI h k)
    · replace h := if_f e9 h
      obtain ⟨v1, h10, h⟩ := bnd_some h
      refine b_Sh_expectedBreaks_15 (l_a0 := l_a0) (k1 := t_Sh_longOf l_a0 h10 ?_)
      refine b_Sh_expectedBreaks_21  (k1 := fun e11 => ?_) (k2 := fun e11 => ?_)
      · replace h := if_t e11 h
        refine b_Sh_expectedBreaks_76  (k1 := ?_)
        exact ih _ _ _ _ _ _ _ l_a0 h
      · replace h := if_f e11 h
        obtain ⟨s2, h12, h⟩ := bnd_some h
        refine b_Sh_expectedBreaks_25 (l_a0 := l_a0) (k1 := t_Sh_fillWords l_a0 h12 ?_)
        obtain ⟨c4, h3, h⟩ := bnd_some h
        obtain ⟨l5, h⟩ := grd_some h
        obtain ⟨v6, s7, h13, h⟩ := bnd2_some h
        refine b_Sh_expectedBreaks_39 (l_a0 := l_a0) (g1 := h3) (l_r6 := l5) (k2 := t_Lw_tells l5 (co8 4 51 8 rfl l_a0) h13 ?_)
        refine b_Sh_expectedBreaks_58  (k1 := fun e14 => ?_) (k2 := fun e14 => ?_)
        · replace h := if_t e14 h
          refine b_Sh_expectedBreaks_71  (k1 := ?_)
          exact ih _ _ _ _ _ _ _ l_a0 h
        · replace h := if_f e14 h
          obtain ⟨v8, h15, h⟩ := bnd_some h
          refine b_Sh_expectedBreaks_62 (l_a0 := l_a0) (k1 := t_Sh_shortOf l_a0 h15 ?_)
          refine b_Sh_expectedBreaks_68  (k1 := ?_)
          exact ih _ _ _ _ _ _ _ l_a0 h
theorem t_Sh_expectedBreaks {κ : Ko} {F : Int32 → AS → Prop} {a0 : Nat} {x1 : Int32} {x2 : Int32} {x3 : Int32} {st : AS} {v : Int32} {s' : AS} (l_a0 : ly κ a0 = (8, 14)) (h : f_Sh_expectedBreaks κ a0 x1 x2 x3 st = some (v, s')) (k : F v s') : C κ M_Sh_expectedBreaks [.ref a0, .int x1, .int x2, .int x3] st (RI F) := by
  unfold f_Sh_expectedBreaks at h
  refine e_Sh_expectedBreaks ?_
  refine b_Sh_expectedBreaks_0  (k1 := ?_)
  refine l_Sh_expectedBreaks_6 k FU _ _ _ _ _ _ _ l_a0 h
noncomputable def f_X_expected (κ : Ko) (a0 : Nat) (x1 : Int32) (x2 : Int32) (x3 : Int32) (st : AS) : Option (Int32 × AS) := bnd (f_Pl_get κ (a0 + 21) x1 st) (fun v1 => nul v1 (some (((-1) : Int32), st)) (fun c2 => grd (ly κ c2 = (8, 14)) (jn (some (((-1) : Int32), st)) fun j7 => if (f_X_isTight κ x2 st) = 0 then j7 else if (wi ((x3 : Int32).toInt64) (0 : Int64) (1 : Int64)) = 0 then j7 else bnd (f_Sh_lengthOfAll κ c2 st) (fun v4 => bnd2 (f_Sh_expectedBreaks κ c2 x2 v4 (if x3 = 0 then (1 : Int32) else (0 : Int32) : Int32) st) (fun v5 s6 => some (v5, s6))))))
theorem t_X_expected {κ : Ko} {F : Int32 → AS → Prop} {a0 : Nat} {x1 : Int32} {x2 : Int32} {x3 : Int32} {st : AS} {v : Int32} {s' : AS} (l_a0 : ly κ a0 = (11, 15)) (h : f_X_expected κ a0 x1 x2 x3 st = some (v, s')) (k : F v s') : C κ M_X_expected [.ref a0, .int x1, .int x2, .int x3] st (RI F) := by
  unfold f_X_expected at h
  refine e_X_expected ?_
  obtain ⟨v1, h8, h⟩ := bnd_some h
  refine b_X_expected_0 (l_a0 := l_a0) (k1 := t_Pl_get (co11 21 5 3 rfl l_a0) h8 ?_)
  rcases v1 with _ | c2
  · replace h := nul_n h
    exact b_X_expected_8_N  (k1 := lfI h k)
  · obtain ⟨l3, h⟩ := grd_some (nul_s h)
    refine b_X_expected_8_R  (k1 := t_X_isTight  rfl ?_)
    obtain ⟨j7, hdj7, h⟩ := jn_some h
    have hj7 : j7 = some (v, s') → V κ M_X_expected (RI F) 32 [none, none, none, none, none] [] st := by
      intro h
      rw [hdj7] at h
      exact b_X_expected_32  (k1 := lfI h k)
    clear hdj7
    refine b_X_expected_19  (k1 := fun e9 => ?_) (k2 := fun e9 => ?_)
    · replace h := if_t e9 h
      exact hj7  h
    · replace h := if_f e9 h
      refine b_X_expected_22  (k1 := t_X_within  rfl ?_)
      refine b_X_expected_29  (k1 := fun e10 => ?_) (k2 := fun e10 => ?_)
      · replace h := if_f e10 h
        obtain ⟨v4, h11, h⟩ := bnd_some h
        refine b_X_expected_34 (l_a4 := l3) (k1 := t_Sh_lengthOfAll l3 h11 ?_)
        have K13 : V κ M_X_expected (RI F) 51 [none, none, none, none, none] [.int (if x3 = 0 then (1 : Int32) else (0 : Int32) : Int32), .int v4, .int x2, .ref c2] st := by
          obtain ⟨v5, s6, h14, h⟩ := bnd2_some h
          refine b_X_expected_51 (l_c0 := l3) (k1 := t_Sh_expectedBreaks l3 h14 ?_)
          exact b_X_expected_54  (k1 := lfI h k)
        refine b_X_expected_42  (k1 := fun e15 => ?_) (k2 := fun e15 => ?_)
        · refine b_X_expected_50  (k1 := ?_)
          exact (ite_f (P := fun z => V κ M_X_expected (RI F) 51 [none, none, none, none, none] [.int z, .int v4, .int x2, .ref c2] st) e15 K13)
        · refine b_X_expected_46  (k1 := ?_)
          exact (ite_t (P := fun z => V κ M_X_expected (RI F) 51 [none, none, none, none, none] [.int z, .int v4, .int x2, .ref c2] st) e15 K13)
      · replace h := if_t e10 h
        exact hj7  h
noncomputable def f_Sh_foretoldOf (κ : Ko) (a0 : Nat) (x1 : Int32) (st : AS) : Int32 := (gat (gi st (a0 + 3)) 61 x1)
theorem t_Sh_foretoldOf {κ : Ko} {F : Int32 → AS → Prop} {a0 : Nat} {x1 : Int32} {st : AS} {v : Int32} (l_a0 : ly κ a0 = (8, 14)) (h : f_Sh_foretoldOf κ a0 x1 st = v) (k : F v st) : C κ M_Sh_foretoldOf [.ref a0, .int x1] st (RI F) := by
  unfold f_Sh_foretoldOf at h
  refine e_Sh_foretoldOf ?_
  refine b_Sh_foretoldOf_0 (l_a0 := l_a0) (k1 := t_X_at (co8 3 50 61 rfl l_a0) rfl ?_)
  exact b_Sh_foretoldOf_8  (k1 := lfIPT h k)
noncomputable def f_X_foretold (κ : Ko) (a0 : Nat) (x1 : Int32) (x2 : Int32) (st : AS) : Option Int32 := bnd (f_Pl_get κ (a0 + 21) x1 st) (fun v1 => nul v1 (some ((-1) : Int32)) (fun c2 => grd (ly κ c2 = (8, 14)) (some (if (wi ((x2 : Int32).toInt64) (1 : Int64) (((f_Sh_rounds κ c2 st) : Int32).toInt64)) = 0 then ((-1) : Int32) else (f_Sh_foretoldOf κ c2 x2 st) : Int32))))
theorem t_X_foretold {κ : Ko} {F : Int32 → AS → Prop} {a0 : Nat} {x1 : Int32} {x2 : Int32} {st : AS} {v : Int32} (l_a0 : ly κ a0 = (11, 15)) (h : f_X_foretold κ a0 x1 x2 st = some v) (k : F v st) : C κ M_X_foretold [.ref a0, .int x1, .int x2] st (RI F) := by
  unfold f_X_foretold at h
  refine e_X_foretold ?_
  obtain ⟨v1, h4, h⟩ := bnd_some h
  refine b_X_foretold_0 (l_a0 := l_a0) (k1 := t_Pl_get (co11 21 5 3 rfl l_a0) h4 ?_)
  rcases v1 with _ | c2
  · replace h := nul_n h
    exact b_X_foretold_8_N  (k1 := lfIP h k)
  · obtain ⟨l3, h⟩ := grd_some (nul_s h)
    refine b_X_foretold_8_R (l_c0 := l3) (k1 := t_Sh_rounds l3 rfl ?_)
    refine b_X_foretold_20  (k1 := t_X_within  rfl ?_)
    have K6 : (RI F) (some (.int (if (wi ((x2 : Int32).toInt64) (1 : Int64) (((f_Sh_rounds κ c2 st) : Int32).toInt64)) = 0 then ((-1) : Int32) else (f_Sh_foretoldOf κ c2 x2 st) : Int32))) st := lfIP h k
    refine b_X_foretold_24  (k1 := fun e7 => ?_) (k2 := fun e7 => ?_)
    · refine b_X_foretold_29 (l_a3 := l3) (k1 := t_Sh_foretoldOf l3 rfl ?_)
      exact b_X_foretold_34  (k1 := (ite_f (P := fun z => (RI F) (some (.int z)) st) e7 K6))
    · exact b_X_foretold_27  (k1 := (ite_t (P := fun z => (RI F) (some (.int z)) st) e7 K6))
noncomputable def L_Sh_pressedIn_4 (κ : Ko) (st : AS) : Nat → Nat → Int32 → Int32 → Int32 → Option Int32
  | 0, _, _, _, _ => none
  | d + 1, a0, x1, x2, x3 => if (gi st a0 12) ≤ x3 then some x2 else bnd (f_Sh_ridgePart κ a0 x3 (4 : Int32) st) (fun v1 => jn (fun (v5 : Int32) => if v5 = 0 then L_Sh_pressedIn_4 κ st  d a0 x1 (x2 + 0) (x3 + 1) else bnd (f_Sh_lengthOf κ a0 x3 st) (fun v6 => L_Sh_pressedIn_4 κ st  d a0 x1 (x2 + v6) (x3 + 1))) fun j4 => jn (j4 (0 : Int32)) fun j3 => if v1 = x1 then bnd (f_Sh_ridgePart κ a0 x3 (5 : Int32) st) (fun v2 => if v2 = 0 then j4 (1 : Int32) else j3) else j3)
noncomputable def f_Sh_pressedIn (κ : Ko) (a0 : Nat) (x1 : Int32) (st : AS) : Option Int32 := L_Sh_pressedIn_4 κ st  FU a0 x1 (0 : Int32) (0 : Int32)
theorem l_Sh_pressedIn_4 {κ : Ko} {F : Int32 → AS → Prop} {v : Int32} {st : AS} (k : F v st) : ∀ (d : Nat) (a0 : Nat) (x1 : Int32) (x2 : Int32) (x3 : Int32), ly κ a0 = (8, 14) → L_Sh_pressedIn_4 κ st  d a0 x1 x2 x3 = some v → V κ M_Sh_pressedIn (RI F) 4 [some (.ref a0), some (.int x1), some (.int x2), some (.int x3), none] [] st := by
  intro d
  induction d with
  | zero =>
    intro a0 x1 x2 x3 l_a0 h
    exact nn_some h
  | succ d ih =>
    intro a0 x1 x2 x3 l_a0 h
    rw [L_Sh_pressedIn_4] at h
    refine b_Sh_pressedIn_4 (l_a0 := l_a0) (k1 := fun e7 => ?_) (k2 := fun e7 => ?_)
    · replace h := if_t e7 h
      exact b_Sh_pressedIn_61  (k1 := lfIP h k)
    · replace h := if_f e7 h
      obtain ⟨v1, h8, h⟩ := bnd_some h
      refine b_Sh_pressedIn_12 (l_a0 := l_a0) (k1 := t_Sh_ridgePart l_a0 h8 ?_)
      obtain ⟨j4, hdj4, h⟩ := jn_some h
      have hj4 : ∀ (v5 : Int32), j4 v5 = some v → V κ M_Sh_pressedIn (RI F) 36 [some (.ref a0), some (.int x1), some (.int x2), some (.int x3), none] [.int v5] st := by
        intro v5 h
        rw [hdj4] at h
        refine b_Sh_pressedIn_36  (k1 := fun e9 => ?_) (k2 := fun e9 => ?_)
        · replace h := if_t e9 h
          refine b_Sh_pressedIn_52  (k1 := ?_)
          exact ih _ _ _ _ l_a0 h
        · replace h := if_f e9 h
          obtain ⟨v6, h10, h⟩ := bnd_some h
          refine b_Sh_pressedIn_44 (l_a0 := l_a0) (k1 := t_Sh_lengthOf l_a0 h10 ?_)
          refine b_Sh_pressedIn_49  (k1 := ?_)
          exact ih _ _ _ _ l_a0 h
      clear hdj4
      obtain ⟨j3, hdj3, h⟩ := jn_some h
      have hj3 : j3 = some v → V κ M_Sh_pressedIn (RI F) 35 [some (.ref a0), some (.int x1), some (.int x2), some (.int x3), none] [] st := by
        intro h
        rw [hdj3] at h
        refine b_Sh_pressedIn_35  (k1 := ?_)
        exact hj4 _  h
      clear hdj3
      refine b_Sh_pressedIn_18  (k1 := fun e11 => ?_) (k2 := fun e11 => ?_)
      · replace h := if_f e11 h
        exact hj3  h
      · replace h := if_t e11 h
        obtain ⟨v2, h12, h⟩ := bnd_some h
        refine b_Sh_pressedIn_22 (l_a0 := l_a0) (k1 := t_Sh_ridgePart l_a0 h12 ?_)
        refine b_Sh_pressedIn_28  (k1 := fun e13 => ?_) (k2 := fun e13 => ?_)
        · replace h := if_f e13 h
          exact hj3  h
        · replace h := if_t e13 h
          refine b_Sh_pressedIn_31  (k1 := ?_)
          exact hj4 _  h
theorem t_Sh_pressedIn {κ : Ko} {F : Int32 → AS → Prop} {a0 : Nat} {x1 : Int32} {st : AS} {v : Int32} (l_a0 : ly κ a0 = (8, 14)) (h : f_Sh_pressedIn κ a0 x1 st = some v) (k : F v st) : C κ M_Sh_pressedIn [.ref a0, .int x1] st (RI F) := by
  unfold f_Sh_pressedIn at h
  refine e_Sh_pressedIn ?_
  refine b_Sh_pressedIn_0  (k1 := ?_)
  refine l_Sh_pressedIn_4 k FU _ _ _ _ l_a0 h
noncomputable def L_Sh_missOfRounds_5 (κ : Ko) (st : AS) : Nat → Nat → Int32 → Int32 → Int32 → Option Int32
  | 0, _, _, _, _ => none
  | d + 1, a0, x2, x3, x4 => if x2 < x4 then some x3 else bnd (f_Sh_pressedIn κ a0 x4 st) (fun v1 => L_Sh_missOfRounds_5 κ st  d a0 x2 (x3 + (iabs (((1000 : Int32) * v1) - (f_Sh_foretoldOf κ a0 x4 st)))) (x4 + 1))
noncomputable def f_Sh_missOfRounds (κ : Ko) (a0 : Nat) (x1 : Int32) (x2 : Int32) (st : AS) : Option Int32 := L_Sh_missOfRounds_5 κ st  FU a0 x2 (0 : Int32) x1
theorem l_Sh_missOfRounds_5 {κ : Ko} {F : Int32 → AS → Prop} {v : Int32} {st : AS} (k : F v st) : ∀ (d : Nat) (a0 : Nat) (x2 : Int32) (x3 : Int32) (x4 : Int32), ly κ a0 = (8, 14) → L_Sh_missOfRounds_5 κ st  d a0 x2 x3 x4 = some v → V κ M_Sh_missOfRounds (RI F) 5 [some (.ref a0), none, some (.int x2), some (.int x3), some (.int x4)] [] st := by
  intro d
  induction d with
  | zero =>
    intro a0 x2 x3 x4 l_a0 h
    exact nn_some h
  | succ d ih =>
    intro a0 x2 x3 x4 l_a0 h
    rw [L_Sh_missOfRounds_5] at h
    refine b_Sh_missOfRounds_5  (k1 := fun e2 => ?_) (k2 := fun e2 => ?_)
    · replace h := if_t e2 h
      exact b_Sh_missOfRounds_40  (k1 := lfIP h k)
    · replace h := if_f e2 h
      obtain ⟨v1, h3, h⟩ := bnd_some h
      refine b_Sh_missOfRounds_11 (l_a0 := l_a0) (k1 := t_Sh_pressedIn l_a0 h3 ?_)
      refine b_Sh_missOfRounds_21 (l_a0 := l_a0) (k1 := t_Sh_foretoldOf l_a0 rfl ?_)
      refine b_Sh_missOfRounds_28  (k1 := t_Jm_abs  rfl ?_)
      refine b_Sh_missOfRounds_32  (k1 := ?_)
      exact ih _ _ _ _ l_a0 h
theorem t_Sh_missOfRounds {κ : Ko} {F : Int32 → AS → Prop} {a0 : Nat} {x1 : Int32} {x2 : Int32} {st : AS} {v : Int32} (l_a0 : ly κ a0 = (8, 14)) (h : f_Sh_missOfRounds κ a0 x1 x2 st = some v) (k : F v st) : C κ M_Sh_missOfRounds [.ref a0, .int x1, .int x2] st (RI F) := by
  unfold f_Sh_missOfRounds at h
  refine e_Sh_missOfRounds ?_
  refine b_Sh_missOfRounds_0  (k1 := ?_)
  refine l_Sh_missOfRounds_5 k FU _ _ _ _ l_a0 h
noncomputable def f_X_miss (κ : Ko) (a0 : Nat) (x1 : Int32) (x2 : Int32) (x3 : Int32) (st : AS) : Option Int32 := bnd (f_Pl_get κ (a0 + 21) x1 st) (fun v1 => nul v1 (some ((-1) : Int32)) (fun c2 => grd (ly κ c2 = (8, 14)) (jn (some ((-1) : Int32)) fun j5 => if x2 < 1 then j5 else if x3 < x2 then j5 else if x3 ≤ (f_Sh_rounds κ c2 st) then bnd (f_Sh_missOfRounds κ c2 x2 x3 st) (fun v4 => some v4) else j5)))
theorem t_X_miss {κ : Ko} {F : Int32 → AS → Prop} {a0 : Nat} {x1 : Int32} {x2 : Int32} {x3 : Int32} {st : AS} {v : Int32} (l_a0 : ly κ a0 = (11, 15)) (h : f_X_miss κ a0 x1 x2 x3 st = some v) (k : F v st) : C κ M_X_miss [.ref a0, .int x1, .int x2, .int x3] st (RI F) := by
  unfold f_X_miss at h
  refine e_X_miss ?_
  obtain ⟨v1, h6, h⟩ := bnd_some h
  refine b_X_miss_0 (l_a0 := l_a0) (k1 := t_Pl_get (co11 21 5 3 rfl l_a0) h6 ?_)
  rcases v1 with _ | c2
  · replace h := nul_n h
    exact b_X_miss_8_N  (k1 := lfIP h k)
  · obtain ⟨l3, h⟩ := grd_some (nul_s h)
    obtain ⟨j5, hdj5, h⟩ := jn_some h
    have hj5 : j5 = some v → V κ M_X_miss (RI F) 34 [none, none, none, none, none] [] st := by
      intro h
      rw [hdj5] at h
      exact b_X_miss_34  (k1 := lfIP h k)
    clear hdj5
    refine b_X_miss_8_R  (k1 := fun e7 => ?_) (k2 := fun e7 => ?_)
    · replace h := if_t e7 h
      exact hj5  h
    · replace h := if_f e7 h
      refine b_X_miss_20  (k1 := fun e8 => ?_) (k2 := fun e8 => ?_)
      · replace h := if_t e8 h
        exact hj5  h
      · replace h := if_f e8 h
        refine b_X_miss_25 (l_a4 := l3) (k1 := t_Sh_rounds l3 rfl ?_)
        refine b_X_miss_31  (k1 := fun e9 => ?_) (k2 := fun e9 => ?_)
        · replace h := if_t e9 h
          obtain ⟨v4, h10, h⟩ := bnd_some h
          refine b_X_miss_36 (l_a4 := l3) (k1 := t_Sh_missOfRounds l3 h10 ?_)
          exact b_X_miss_43  (k1 := lfIP h k)
        · replace h := if_f e9 h
          exact hj5  h
noncomputable def L_Sh_addsBehind_8 (κ : Ko) (st : AS) (k_49 : Nat → Int32 → Option Int32) : Nat → Nat → Int32 → Int32 → Int32 → Int32 → Option Int32
  | 0, _, _, _, _, _ => none
  | d + 1, a0, x1, x2, x3, x4 => if (gi st a0 10) ≤ x4 then k_49 a0 x2 else bnd (f_Sh_lengthOfRounds κ a0 (0 : Int32) x4 st) (fun v1 => L_Sh_addsBehind_8 κ st k_49 d a0 x1 (if x3 ≤ (iabs (v1 - x1)) then x2 else x4 : Int32) (if x3 ≤ (iabs (v1 - x1)) then x3 else (iabs (v1 - x1)) : Int32) (x4 + 1))
noncomputable def f_Sh_addsBehind (κ : Ko) (a0 : Nat) (x1 : Int32) (st : AS) : Option Int32 := L_Sh_addsBehind_8 κ st (fun (v7 : Nat) (v9 : Int32) => bnd (f_Sh_lengthOfRounds κ v7 (v9 + 1) (v9 + 1) st) (fun v10 => some v10)) FU a0 x1 (0 : Int32) (2147483647 : Int32) (0 : Int32)
theorem l_Sh_addsBehind_8 {κ : Ko} {F : Int32 → AS → Prop} {v : Int32} {st : AS} (k : F v st) {k_49 : Nat → Int32 → Option Int32} (hk_49 : ∀ (a0 : Nat) (x2 : Int32), ly κ a0 = (8, 14) → k_49 a0 x2 = some v → V κ M_Sh_addsBehind (RI F) 49 [some (.ref a0), none, some (.int x2), none, none, none] [] st) : ∀ (d : Nat) (a0 : Nat) (x1 : Int32) (x2 : Int32) (x3 : Int32) (x4 : Int32), ly κ a0 = (8, 14) → L_Sh_addsBehind_8 κ st k_49 d a0 x1 x2 x3 x4 = some v → V κ M_Sh_addsBehind (RI F) 8 [some (.ref a0), some (.int x1), some (.int x2), some (.int x3), some (.int x4), none] [] st := by
  intro d
  induction d with
  | zero =>
    intro a0 x1 x2 x3 x4 l_a0 h
    exact nn_some h
  | succ d ih =>
    intro a0 x1 x2 x3 x4 l_a0 h
    rw [L_Sh_addsBehind_8] at h
    refine b_Sh_addsBehind_8 (l_a0 := l_a0) (k1 := fun e2 => ?_) (k2 := fun e2 => ?_)
    · replace h := if_t e2 h
      exact hk_49 _ _ l_a0 h
    · replace h := if_f e2 h
      obtain ⟨v1, h3, h⟩ := bnd_some h
      refine b_Sh_addsBehind_17 (l_a0 := l_a0) (k1 := t_Sh_lengthOfRounds l_a0 h3 ?_)
      refine b_Sh_addsBehind_24  (k1 := t_Jm_abs  rfl ?_)
      have K5 : V κ M_Sh_addsBehind (RI F) 8 [some (.ref a0), some (.int x1), some (.int (if x3 ≤ (iabs (v1 - x1)) then x2 else x4 : Int32)), some (.int (if x3 ≤ (iabs (v1 - x1)) then x3 else (iabs (v1 - x1)) : Int32)), some (.int (x4 + 1)), none] [] st := by
        exact ih _ _ _ _ _ l_a0 h
      refine b_Sh_addsBehind_29  (k1 := fun e6 => ?_) (k2 := fun e6 => ?_)
      · refine b_Sh_addsBehind_43  (k1 := ?_)
        exact (ite_t (P := fun z => V κ M_Sh_addsBehind (RI F) 8 [some (.ref a0), some (.int x1), some (.int x2), some (.int z), some (.int (x4 + 1)), none] [] st) e6 (ite_t (P := fun z => V κ M_Sh_addsBehind (RI F) 8 [some (.ref a0), some (.int x1), some (.int z), some (.int (if x3 ≤ (iabs (v1 - x1)) then x3 else (iabs (v1 - x1)) : Int32)), some (.int (x4 + 1)), none] [] st) e6 K5))
      · refine b_Sh_addsBehind_37  (k1 := ?_)
        exact (ite_f (P := fun z => V κ M_Sh_addsBehind (RI F) 8 [some (.ref a0), some (.int x1), some (.int x4), some (.int z), some (.int (x4 + 1)), none] [] st) e6 (ite_f (P := fun z => V κ M_Sh_addsBehind (RI F) 8 [some (.ref a0), some (.int x1), some (.int z), some (.int (if x3 ≤ (iabs (v1 - x1)) then x3 else (iabs (v1 - x1)) : Int32)), some (.int (x4 + 1)), none] [] st) e6 K5))
theorem t_Sh_addsBehind {κ : Ko} {F : Int32 → AS → Prop} {a0 : Nat} {x1 : Int32} {st : AS} {v : Int32} (l_a0 : ly κ a0 = (8, 14)) (h : f_Sh_addsBehind κ a0 x1 st = some v) (k : F v st) : C κ M_Sh_addsBehind [.ref a0, .int x1] st (RI F) := by
  unfold f_Sh_addsBehind at h
  refine e_Sh_addsBehind ?_
  refine b_Sh_addsBehind_0  (k1 := ?_)
  refine l_Sh_addsBehind_8 k ?_ FU _ _ _ _ _ l_a0 h
  · intro v7 v9 l8 h
    obtain ⟨v10, h11, h⟩ := bnd_some h
    refine b_Sh_addsBehind_49 (l_a0 := l8) (k1 := t_Sh_lengthOfRounds l8 h11 ?_)
    exact b_Sh_addsBehind_59  (k1 := lfIP h k)
noncomputable def f_X_guess (κ : Ko) (a0 : Nat) (x1 : Int32) (x2 : Int32) (st : AS) : Option Int32 := bnd (f_Pl_get κ (a0 + 21) x1 st) (fun v1 => nul v1 (bnd (f_Pl_get κ (a0 + 21) x2 st) (fun v9 => nul v9 (some ((-1) : Int32)) (fun c10 => grd (ly κ c10 = (8, 14)) (some ((-1) : Int32))))) (fun c2 => grd (ly κ c2 = (8, 14)) (bnd (f_Pl_get κ (a0 + 21) x2 st) (fun v4 => nul v4 (some ((-1) : Int32)) (fun c5 => grd (ly κ c5 = (8, 14)) (if x1 = x2 then some ((-1) : Int32) else if (f_Sh_rounds κ c5 st) = 0 then some ((-2) : Int32) else bnd (f_Sh_lengthOfAll κ c2 st) (fun v7 => bnd (f_Sh_addsBehind κ c5 v7 st) (fun v8 => some v8))))))))
theorem t_X_guess {κ : Ko} {F : Int32 → AS → Prop} {a0 : Nat} {x1 : Int32} {x2 : Int32} {st : AS} {v : Int32} (l_a0 : ly κ a0 = (11, 15)) (h : f_X_guess κ a0 x1 x2 st = some v) (k : F v st) : C κ M_X_guess [.ref a0, .int x1, .int x2] st (RI F) := by
  unfold f_X_guess at h
  refine e_X_guess ?_
  obtain ⟨v1, h12, h⟩ := bnd_some h
  refine b_X_guess_0 (l_a0 := l_a0) (k1 := t_Pl_get (co11 21 5 3 rfl l_a0) h12 ?_)
  rcases v1 with _ | c2
  · replace h := nul_n h
    obtain ⟨v9, h13, h⟩ := bnd_some h
    refine b_X_guess_8_RN (l_a0 := l_a0) (k1 := t_Pl_get (co11 21 5 3 rfl l_a0) h13 ?_)
    rcases v9 with _ | c10
    · replace h := nul_n h
      exact b_X_guess_17_NN  (k1 := lfIP h k)
    · obtain ⟨l11, h⟩ := grd_some (nul_s h)
      exact b_X_guess_17_NR  (k1 := lfIP h k)
  · obtain ⟨l3, h⟩ := grd_some (nul_s h)
    obtain ⟨v4, h14, h⟩ := bnd_some h
    refine b_X_guess_8_RR (l_a0 := l_a0) (k1 := t_Pl_get (co11 21 5 3 rfl l_a0) h14 ?_)
    rcases v4 with _ | c5
    · replace h := nul_n h
      exact b_X_guess_17_RN  (k1 := lfIP h k)
    · obtain ⟨l6, h⟩ := grd_some (nul_s h)
      refine b_X_guess_17_RR  (k1 := fun e15 => ?_) (k2 := fun e15 => ?_)
      · replace h := if_f e15 h
        refine b_X_guess_35 (l_a4 := l6) (k1 := t_Sh_rounds l6 rfl ?_)
        refine b_X_guess_40  (k1 := fun e16 => ?_) (k2 := fun e16 => ?_)
        · replace h := if_f e16 h
          obtain ⟨v7, h17, h⟩ := bnd_some h
          refine b_X_guess_48 (l_a3 := l3) (k1 := t_Sh_lengthOfAll l3 h17 ?_)
          obtain ⟨v8, h18, h⟩ := bnd_some h
          refine b_X_guess_54 (l_c0 := l6) (k1 := t_Sh_addsBehind l6 h18 ?_)
          exact b_X_guess_57  (k1 := lfIP h k)
        · replace h := if_t e16 h
          exact b_X_guess_43  (k1 := lfIP h k)
      · replace h := if_t e15 h
        exact b_X_guess_33  (k1 := lfIP h k)
noncomputable def L_Sh_curveHeight_4 (κ : Ko) (st : AS) (k_29 : Nat → Int32 → Option Int32) : Nat → Nat → Int32 → Int32 → Option Int32
  | 0, _, _, _ => none
  | d + 1, a0, x1, x2 => if (gi st a0 10) < x2 then k_29 a0 x1 else bnd (f_Sh_lengthOfRounds κ a0 x2 x2 st) (fun v1 => L_Sh_curveHeight_4 κ st k_29 d a0 (x1 + (v1 * x2)) (x2 + 1))
noncomputable def f_Sh_curveHeight (κ : Ko) (a0 : Nat) (st : AS) : Option Int32 := L_Sh_curveHeight_4 κ st (fun (v4 : Nat) (v6 : Int32) => if (gi st v4 10) = 0 then some (0 : Int32) else bnd (f_Jm_floorDiv κ v6 (gi st v4 10) st) (fun v7 => some v7)) FU a0 (0 : Int32) (1 : Int32)
theorem l_Sh_curveHeight_4 {κ : Ko} {F : Int32 → AS → Prop} {v : Int32} {st : AS} (k : F v st) {k_29 : Nat → Int32 → Option Int32} (hk_29 : ∀ (a0 : Nat) (x1 : Int32), ly κ a0 = (8, 14) → k_29 a0 x1 = some v → V κ M_Sh_curveHeight (RI F) 29 [some (.ref a0), some (.int x1), none] [] st) : ∀ (d : Nat) (a0 : Nat) (x1 : Int32) (x2 : Int32), ly κ a0 = (8, 14) → L_Sh_curveHeight_4 κ st k_29 d a0 x1 x2 = some v → V κ M_Sh_curveHeight (RI F) 4 [some (.ref a0), some (.int x1), some (.int x2)] [] st := by
  intro d
  induction d with
  | zero =>
    intro a0 x1 x2 l_a0 h
    exact nn_some h
  | succ d ih =>
    intro a0 x1 x2 l_a0 h
    rw [L_Sh_curveHeight_4] at h
    refine b_Sh_curveHeight_4 (l_a0 := l_a0) (k1 := fun e2 => ?_) (k2 := fun e2 => ?_)
    · replace h := if_t e2 h
      exact hk_29 _ _ l_a0 h
    · replace h := if_f e2 h
      obtain ⟨v1, h3, h⟩ := bnd_some h
      refine b_Sh_curveHeight_12 (l_a0 := l_a0) (k1 := t_Sh_lengthOfRounds l_a0 h3 ?_)
      refine b_Sh_curveHeight_19  (k1 := ?_)
      exact ih _ _ _ l_a0 h
theorem t_Sh_curveHeight {κ : Ko} {F : Int32 → AS → Prop} {a0 : Nat} {st : AS} {v : Int32} (l_a0 : ly κ a0 = (8, 14)) (h : f_Sh_curveHeight κ a0 st = some v) (k : F v st) : C κ M_Sh_curveHeight [.ref a0] st (RI F) := by
  unfold f_Sh_curveHeight at h
  refine e_Sh_curveHeight ?_
  refine b_Sh_curveHeight_0  (k1 := ?_)
  refine l_Sh_curveHeight_4 k ?_ FU _ _ _ l_a0 h
  · intro v4 v6 l5 h
    refine b_Sh_curveHeight_29 (l_a0 := l5) (k1 := fun e8 => ?_) (k2 := fun e8 => ?_)
    · replace h := if_f e8 h
      obtain ⟨v7, h9, h⟩ := bnd_some h
      refine b_Sh_curveHeight_40 (l_a0 := l5) (k1 := t_Jm_floorDiv  h9 ?_)
      exact b_Sh_curveHeight_48  (k1 := lfIP h k)
    · replace h := if_t e8 h
      exact b_Sh_curveHeight_36  (k1 := lfIP h k)
noncomputable def L_Sh_offCurve_9 (κ : Ko) (st : AS) : Nat → Nat → Int32 → Int32 → Int32 → Option Int32
  | 0, _, _, _, _ => none
  | d + 1, a0, x1, x2, x3 => if (gi st a0 10) < x3 then some x2 else bnd (f_Sh_lengthOfRounds κ a0 x3 x3 st) (fun v2 => bnd (f_Jm_floorDiv κ x1 x3 st) (fun v3 => L_Sh_offCurve_9 κ st  d a0 x1 (x2 + (iabs (v2 - v3))) (x3 + 1)))
noncomputable def f_Sh_offCurve (κ : Ko) (a0 : Nat) (st : AS) : Option Int32 := bnd (f_Sh_curveHeight κ a0 st) (fun v1 => L_Sh_offCurve_9 κ st  FU a0 v1 (0 : Int32) (1 : Int32))
theorem l_Sh_offCurve_9 {κ : Ko} {F : Int32 → AS → Prop} {v : Int32} {st : AS} (k : F v st) : ∀ (d : Nat) (a0 : Nat) (x1 : Int32) (x2 : Int32) (x3 : Int32), ly κ a0 = (8, 14) → L_Sh_offCurve_9 κ st  d a0 x1 x2 x3 = some v → V κ M_Sh_offCurve (RI F) 9 [some (.ref a0), some (.int x1), some (.int x2), some (.int x3)] [] st := by
  intro d
  induction d with
  | zero =>
    intro a0 x1 x2 x3 l_a0 h
    exact nn_some h
  | succ d ih =>
    intro a0 x1 x2 x3 l_a0 h
    rw [L_Sh_offCurve_9] at h
    refine b_Sh_offCurve_9 (l_a0 := l_a0) (k1 := fun e4 => ?_) (k2 := fun e4 => ?_)
    · replace h := if_t e4 h
      exact b_Sh_offCurve_41  (k1 := lfIP h k)
    · replace h := if_f e4 h
      obtain ⟨v2, h5, h⟩ := bnd_some h
      refine b_Sh_offCurve_17 (l_a0 := l_a0) (k1 := t_Sh_lengthOfRounds l_a0 h5 ?_)
      obtain ⟨v3, h6, h⟩ := bnd_some h
      refine b_Sh_offCurve_24  (k1 := t_Jm_floorDiv  h6 ?_)
      refine b_Sh_offCurve_29  (k1 := t_Jm_abs  rfl ?_)
      refine b_Sh_offCurve_33  (k1 := ?_)
      exact ih _ _ _ _ l_a0 h
theorem t_Sh_offCurve {κ : Ko} {F : Int32 → AS → Prop} {a0 : Nat} {st : AS} {v : Int32} (l_a0 : ly κ a0 = (8, 14)) (h : f_Sh_offCurve κ a0 st = some v) (k : F v st) : C κ M_Sh_offCurve [.ref a0] st (RI F) := by
  unfold f_Sh_offCurve at h
  refine e_Sh_offCurve ?_
  obtain ⟨v1, h7, h⟩ := bnd_some h
  refine b_Sh_offCurve_0 (l_a0 := l_a0) (k1 := t_Sh_curveHeight l_a0 h7 ?_)
  refine b_Sh_offCurve_4  (k1 := ?_)
  refine l_Sh_offCurve_9 k FU _ _ _ _ l_a0 h
noncomputable def f_X_curve (κ : Ko) (a0 : Nat) (x1 : Int32) (x2 : Int32) (st : AS) : Option Int32 := bnd (f_Pl_get κ (a0 + 21) x1 st) (fun v1 => nul v1 (some ((-1) : Int32)) (fun c2 => grd (ly κ c2 = (8, 14)) (if (wi ((x2 : Int32).toInt64) (0 : Int64) (1 : Int64)) = 0 then some ((-1) : Int32) else if (f_Sh_rounds κ c2 st) = 0 then some ((-2) : Int32) else if x2 = 0 then bnd (f_Sh_curveHeight κ c2 st) (fun v5 => some v5) else bnd (f_Sh_offCurve κ c2 st) (fun v4 => some v4))))
theorem t_X_curve {κ : Ko} {F : Int32 → AS → Prop} {a0 : Nat} {x1 : Int32} {x2 : Int32} {st : AS} {v : Int32} (l_a0 : ly κ a0 = (11, 15)) (h : f_X_curve κ a0 x1 x2 st = some v) (k : F v st) : C κ M_X_curve [.ref a0, .int x1, .int x2] st (RI F) := by
  unfold f_X_curve at h
  refine e_X_curve ?_
  obtain ⟨v1, h6, h⟩ := bnd_some h
  refine b_X_curve_0 (l_a0 := l_a0) (k1 := t_Pl_get (co11 21 5 3 rfl l_a0) h6 ?_)
  rcases v1 with _ | c2
  · replace h := nul_n h
    exact b_X_curve_8_N  (k1 := lfIP h k)
  · obtain ⟨l3, h⟩ := grd_some (nul_s h)
    refine b_X_curve_8_R  (k1 := t_X_within  rfl ?_)
    refine b_X_curve_20  (k1 := fun e7 => ?_) (k2 := fun e7 => ?_)
    · replace h := if_f e7 h
      refine b_X_curve_25 (l_a3 := l3) (k1 := t_Sh_rounds l3 rfl ?_)
      refine b_X_curve_29  (k1 := fun e8 => ?_) (k2 := fun e8 => ?_)
      · replace h := if_f e8 h
        refine b_X_curve_35  (k1 := fun e9 => ?_) (k2 := fun e9 => ?_)
        · replace h := if_f e9 h
          obtain ⟨v4, h10, h⟩ := bnd_some h
          refine b_X_curve_46 (l_a3 := l3) (k1 := t_Sh_offCurve l3 h10 ?_)
          exact b_X_curve_50  (k1 := lfIP h k)
        · replace h := if_t e9 h
          obtain ⟨v5, h11, h⟩ := bnd_some h
          refine b_X_curve_39 (l_a3 := l3) (k1 := t_Sh_curveHeight l3 h11 ?_)
          exact b_X_curve_43  (k1 := lfIP h k)
      · replace h := if_t e8 h
        exact b_X_curve_32  (k1 := lfIP h k)
    · replace h := if_t e7 h
      exact b_X_curve_23  (k1 := lfIP h k)
noncomputable def L_Sh_areaOfRank_18 (κ : Ko) (st : AS) (k_79 : Nat → Int32 → Int32 → Int32 → Int32 → Option Int32) : Nat → Nat → Int32 → Int32 → Int32 → Int32 → Int32 → Option Int32
  | 0, _, _, _, _, _, _ => none
  | d + 1, a0, x1, x2, x3, x4, x5 => if (gi st a0 11) ≤ x5 then k_79 a0 x1 x2 x3 x4 else bnd (f_Sh_areaOf κ a0 x5 st) (fun v1 => bnd (f_Sh_areaOf κ a0 x2 st) (fun v2 => bnd (f_Sh_areaOf κ a0 x5 st) (fun v3 => bnd (f_Sh_areaOf κ a0 x2 st) (fun v4 => L_Sh_areaOfRank_18 κ st k_79 d a0 x1 x2 (x3 + (if v2 ≤ v1 then (0 : Int32) else (1 : Int32) : Int32)) (if v3 = v4 then x4 + 1 else x4 + 0 : Int32) (x5 + 1)))))
noncomputable def L_Sh_areaOfRank_2 (κ : Ko) (st : AS) (k_96 : Nat → Int32 → Option Int32) : Nat → Nat → Int32 → Int32 → Option Int32
  | 0, _, _, _ => none
  | d + 1, a0, x1, x2 => if (gi st a0 11) ≤ x2 then some ((-1) : Int32) else L_Sh_areaOfRank_18 κ st (fun (v16 : Nat) (v18 : Int32) (v19 : Int32) (v20 : Int32) (v21 : Int32) => if (wi ((v18 : Int32).toInt64) ((v20 : Int32).toInt64) (((v20 + v21) - 1 : Int32).toInt64)) = 0 then L_Sh_areaOfRank_2 κ st k_96 d v16 v18 (v19 + 1) else k_96 v16 v19) FU a0 x1 x2 (0 : Int32) (0 : Int32) (0 : Int32)
noncomputable def f_Sh_areaOfRank (κ : Ko) (a0 : Nat) (x1 : Int32) (st : AS) : Option Int32 := L_Sh_areaOfRank_2 κ st (fun (v24 : Nat) (v26 : Int32) => bnd (f_Sh_areaOf κ v24 v26 st) (fun v27 => some v27)) FU a0 x1 (0 : Int32)
theorem l_Sh_areaOfRank_18 {κ : Ko} {F : Int32 → AS → Prop} {v : Int32} {st : AS} (k : F v st) {k_79 : Nat → Int32 → Int32 → Int32 → Int32 → Option Int32} (hk_79 : ∀ (a0 : Nat) (x1 : Int32) (x2 : Int32) (x3 : Int32) (x4 : Int32), ly κ a0 = (8, 14) → k_79 a0 x1 x2 x3 x4 = some v → V κ M_Sh_areaOfRank (RI F) 79 [some (.ref a0), some (.int x1), some (.int x2), some (.int x3), some (.int x4), none] [] st) : ∀ (d : Nat) (a0 : Nat) (x1 : Int32) (x2 : Int32) (x3 : Int32) (x4 : Int32) (x5 : Int32), ly κ a0 = (8, 14) → L_Sh_areaOfRank_18 κ st k_79 d a0 x1 x2 x3 x4 x5 = some v → V κ M_Sh_areaOfRank (RI F) 18 [some (.ref a0), some (.int x1), some (.int x2), some (.int x3), some (.int x4), some (.int x5)] [] st := by
  intro d
  induction d with
  | zero =>
    intro a0 x1 x2 x3 x4 x5 l_a0 h
    exact nn_some h
  | succ d ih =>
    intro a0 x1 x2 x3 x4 x5 l_a0 h
    rw [L_Sh_areaOfRank_18] at h
    refine b_Sh_areaOfRank_18 (l_a0 := l_a0) (k1 := fun e5 => ?_) (k2 := fun e5 => ?_)
    · replace h := if_t e5 h
      exact hk_79 _ _ _ _ _ l_a0 h
    · replace h := if_f e5 h
      obtain ⟨v1, h6, h⟩ := bnd_some h
      refine b_Sh_areaOfRank_27 (l_a0 := l_a0) (k1 := t_Sh_areaOf l_a0 h6 ?_)
      obtain ⟨v2, h7, h⟩ := bnd_some h
      refine b_Sh_areaOfRank_34 (l_a0 := l_a0) (k1 := t_Sh_areaOf l_a0 h7 ?_)
      have K9 : V κ M_Sh_areaOfRank (RI F) 47 [some (.ref a0), some (.int x1), some (.int x2), none, some (.int x4), some (.int x5)] [.int (if v2 ≤ v1 then (0 : Int32) else (1 : Int32) : Int32), .int x3] st := by
        obtain ⟨v3, h10, h⟩ := bnd_some h
        refine b_Sh_areaOfRank_47 (l_a0 := l_a0) (k1 := t_Sh_areaOf l_a0 h10 ?_)
        obtain ⟨v4, h11, h⟩ := bnd_some h
        refine b_Sh_areaOfRank_57 (l_a0 := l_a0) (k1 := t_Sh_areaOf l_a0 h11 ?_)
        have K13 : V κ M_Sh_areaOfRank (RI F) 18 [some (.ref a0), some (.int x1), some (.int x2), some (.int (x3 + (if v2 ≤ v1 then (0 : Int32) else (1 : Int32) : Int32))), some (.int (if v3 = v4 then x4 + 1 else x4 + 0 : Int32)), some (.int (x5 + 1))] [] st := by
          exact ih _ _ _ _ _ _ l_a0 h
        refine b_Sh_areaOfRank_62  (k1 := fun e14 => ?_) (k2 := fun e14 => ?_)
        · refine b_Sh_areaOfRank_69  (k1 := ?_)
          exact (ite_f (P := fun z => V κ M_Sh_areaOfRank (RI F) 18 [some (.ref a0), some (.int x1), some (.int x2), some (.int (x3 + (if v2 ≤ v1 then (0 : Int32) else (1 : Int32) : Int32))), some (.int z), some (.int (x5 + 1))] [] st) e14 K13)
        · refine b_Sh_areaOfRank_65  (k1 := ?_)
          exact (ite_t (P := fun z => V κ M_Sh_areaOfRank (RI F) 18 [some (.ref a0), some (.int x1), some (.int x2), some (.int (x3 + (if v2 ≤ v1 then (0 : Int32) else (1 : Int32) : Int32))), some (.int z), some (.int (x5 + 1))] [] st) e14 K13)
      refine b_Sh_areaOfRank_39  (k1 := fun e15 => ?_) (k2 := fun e15 => ?_)
      · refine b_Sh_areaOfRank_46  (k1 := ?_)
        exact (ite_t (P := fun z => V κ M_Sh_areaOfRank (RI F) 47 [some (.ref a0), some (.int x1), some (.int x2), none, some (.int x4), some (.int x5)] [.int z, .int x3] st) e15 K9)
      · refine b_Sh_areaOfRank_42  (k1 := ?_)
        exact (ite_f (P := fun z => V κ M_Sh_areaOfRank (RI F) 47 [some (.ref a0), some (.int x1), some (.int x2), none, some (.int x4), some (.int x5)] [.int z, .int x3] st) e15 K9)
theorem l_Sh_areaOfRank_2 {κ : Ko} {F : Int32 → AS → Prop} {v : Int32} {st : AS} (k : F v st) {k_96 : Nat → Int32 → Option Int32} (hk_96 : ∀ (a0 : Nat) (x2 : Int32), ly κ a0 = (8, 14) → k_96 a0 x2 = some v → V κ M_Sh_areaOfRank (RI F) 96 [some (.ref a0), none, some (.int x2), none, none, none] [] st) : ∀ (d : Nat) (a0 : Nat) (x1 : Int32) (x2 : Int32), ly κ a0 = (8, 14) → L_Sh_areaOfRank_2 κ st k_96 d a0 x1 x2 = some v → V κ M_Sh_areaOfRank (RI F) 2 [some (.ref a0), some (.int x1), some (.int x2), none, none, none] [] st := by
  intro d
  induction d with
  | zero =>
    intro a0 x1 x2 l_a0 h
    exact nn_some h
  | succ d ih =>
    intro a0 x1 x2 l_a0 h
    rw [L_Sh_areaOfRank_2] at h
    refine b_Sh_areaOfRank_2 (l_a0 := l_a0) (k1 := fun e22 => ?_) (k2 := fun e22 => ?_)
    · replace h := if_t e22 h
      exact b_Sh_areaOfRank_108  (k1 := lfIP h k)
    · replace h := if_f e22 h
      refine b_Sh_areaOfRank_10  (k1 := ?_)
      refine l_Sh_areaOfRank_18 k ?_ FU _ _ _ _ _ _ l_a0 h
      · intro v16 v18 v19 v20 v21 l17 h
        refine b_Sh_areaOfRank_79  (k1 := t_X_within  rfl ?_)
        refine b_Sh_areaOfRank_93  (k1 := fun e23 => ?_) (k2 := fun e23 => ?_)
        · replace h := if_t e23 h
          refine b_Sh_areaOfRank_102  (k1 := ?_)
          exact ih _ _ _ l17 h
        · replace h := if_f e23 h
          exact hk_96 _ _ l17 h
theorem t_Sh_areaOfRank {κ : Ko} {F : Int32 → AS → Prop} {a0 : Nat} {x1 : Int32} {st : AS} {v : Int32} (l_a0 : ly κ a0 = (8, 14)) (h : f_Sh_areaOfRank κ a0 x1 st = some v) (k : F v st) : C κ M_Sh_areaOfRank [.ref a0, .int x1] st (RI F) := by
  unfold f_Sh_areaOfRank at h
  refine e_Sh_areaOfRank ?_
  refine b_Sh_areaOfRank_0  (k1 := ?_)
  refine l_Sh_areaOfRank_2 k ?_ FU _ _ _ l_a0 h
  · intro v24 v26 l25 h
    obtain ⟨v27, h28, h⟩ := bnd_some h
    refine b_Sh_areaOfRank_96 (l_a0 := l25) (k1 := t_Sh_areaOf l25 h28 ?_)
    exact b_Sh_areaOfRank_101  (k1 := lfIP h k)
noncomputable def f_X_sizes (κ : Ko) (a0 : Nat) (x1 : Int32) (x2 : Int32) (st : AS) : Option Int32 := bnd (f_Pl_get κ (a0 + 21) x1 st) (fun v1 => nul v1 (some ((-1) : Int32)) (fun c2 => grd (ly κ c2 = (8, 14)) (if x2 = 0 then bnd (f_Sh_areaOfRank κ c2 (0 : Int32) st) (fun v4 => some v4) else if x2 = 1 then bnd (f_Sh_areaOfRank κ c2 ((f_Sh_facetCount κ c2 st) - 1) st) (fun v5 => some v5) else if x2 = 2 then bnd (f_Sh_areaOfRank κ c2 (((f_Sh_facetCount κ c2 st) - 1) / 2) st) (fun v6 => some v6) else some ((-1) : Int32))))
theorem t_X_sizes {κ : Ko} {F : Int32 → AS → Prop} {a0 : Nat} {x1 : Int32} {x2 : Int32} {st : AS} {v : Int32} (l_a0 : ly κ a0 = (11, 15)) (h : f_X_sizes κ a0 x1 x2 st = some v) (k : F v st) : C κ M_X_sizes [.ref a0, .int x1, .int x2] st (RI F) := by
  unfold f_X_sizes at h
  refine e_X_sizes ?_
  obtain ⟨v1, h7, h⟩ := bnd_some h
  refine b_X_sizes_0 (l_a0 := l_a0) (k1 := t_Pl_get (co11 21 5 3 rfl l_a0) h7 ?_)
  rcases v1 with _ | c2
  · replace h := nul_n h
    exact b_X_sizes_8_N  (k1 := lfIP h k)
  · obtain ⟨l3, h⟩ := grd_some (nul_s h)
    refine b_X_sizes_8_R  (k1 := fun e8 => ?_) (k2 := fun e8 => ?_) (k3 := fun e8 => ?_) (k4 := fun e8 => ?_)
    · replace h := if_t e8 h
      obtain ⟨v4, h9, h⟩ := bnd_some h
      refine b_X_sizes_44 (l_a3 := l3) (k1 := t_Sh_areaOfRank l3 h9 ?_)
      exact b_X_sizes_49  (k1 := lfIP h k)
    · replace h := if_f (fun z => by rw [z] at e8; exact absurd e8 (by decide)) h
      replace h := if_t e8 h
      refine b_X_sizes_50 (l_a3 := l3) (k1 := t_Sh_facetCount l3 rfl ?_)
      obtain ⟨v5, h10, h⟩ := bnd_some h
      refine b_X_sizes_55 (l_c0 := l3) (k1 := t_Sh_areaOfRank l3 h10 ?_)
      exact b_X_sizes_60  (k1 := lfIP h k)
    · replace h := if_f (fun z => by rw [z] at e8; exact absurd e8 (by decide)) h
      replace h := if_f (fun z => by rw [z] at e8; exact absurd e8 (by decide)) h
      replace h := if_t e8 h
      refine b_X_sizes_61 (l_a3 := l3) (k1 := t_Sh_facetCount l3 rfl ?_)
      obtain ⟨v6, h11, h⟩ := bnd_some h
      refine b_X_sizes_66 (l_c0 := l3) (k1 := t_Sh_areaOfRank l3 h11 ?_)
      exact b_X_sizes_73  (k1 := lfIP h k)
    · replace h := if_f (fun z => by rw [z] at e8; exact absurd e8 (by decide)) h
      replace h := if_f (fun z => by rw [z] at e8; exact absurd e8 (by decide)) h
      replace h := if_f (fun z => by rw [z] at e8; exact absurd e8 (by decide)) h
      exact b_X_sizes_74  (k1 := lfIP h k)
noncomputable def L_Sh_facetsOfClass_4 (κ : Ko) (st : AS) : Nat → Nat → Int32 → Int32 → Int32 → Option Int32
  | 0, _, _, _, _ => none
  | d + 1, a0, x1, x2, x3 => if (gi st a0 11) ≤ x3 then some x2 else bnd (f_Sh_areaOf κ a0 x3 st) (fun v1 => L_Sh_facetsOfClass_4 κ st  d a0 x1 (if (v1 >>> ((x1 : Int32) &&& 31)) = 1 then x2 + 1 else x2 + 0 : Int32) (x3 + 1))
noncomputable def f_Sh_facetsOfClass (κ : Ko) (a0 : Nat) (x1 : Int32) (st : AS) : Option Int32 := L_Sh_facetsOfClass_4 κ st  FU a0 x1 (0 : Int32) (0 : Int32)
theorem l_Sh_facetsOfClass_4 {κ : Ko} {F : Int32 → AS → Prop} {v : Int32} {st : AS} (k : F v st) : ∀ (d : Nat) (a0 : Nat) (x1 : Int32) (x2 : Int32) (x3 : Int32), ly κ a0 = (8, 14) → L_Sh_facetsOfClass_4 κ st  d a0 x1 x2 x3 = some v → V κ M_Sh_facetsOfClass (RI F) 4 [some (.ref a0), some (.int x1), some (.int x2), some (.int x3)] [] st := by
  intro d
  induction d with
  | zero =>
    intro a0 x1 x2 x3 l_a0 h
    exact nn_some h
  | succ d ih =>
    intro a0 x1 x2 x3 l_a0 h
    rw [L_Sh_facetsOfClass_4] at h
    refine b_Sh_facetsOfClass_4 (l_a0 := l_a0) (k1 := fun e2 => ?_) (k2 := fun e2 => ?_)
    · replace h := if_t e2 h
      exact b_Sh_facetsOfClass_37  (k1 := lfIP h k)
    · replace h := if_f e2 h
      obtain ⟨v1, h3, h⟩ := bnd_some h
      refine b_Sh_facetsOfClass_12 (l_a0 := l_a0) (k1 := t_Sh_areaOf l_a0 h3 ?_)
      have K5 : V κ M_Sh_facetsOfClass (RI F) 4 [some (.ref a0), some (.int x1), some (.int (if (v1 >>> ((x1 : Int32) &&& 31)) = 1 then x2 + 1 else x2 + 0 : Int32)), some (.int (x3 + 1))] [] st := by
        exact ih _ _ _ _ l_a0 h
      refine b_Sh_facetsOfClass_18  (k1 := fun e6 => ?_) (k2 := fun e6 => ?_)
      · refine b_Sh_facetsOfClass_28  (k1 := ?_)
        exact (ite_f (P := fun z => V κ M_Sh_facetsOfClass (RI F) 4 [some (.ref a0), some (.int x1), some (.int z), some (.int (x3 + 1))] [] st) e6 K5)
      · refine b_Sh_facetsOfClass_24  (k1 := ?_)
        exact (ite_t (P := fun z => V κ M_Sh_facetsOfClass (RI F) 4 [some (.ref a0), some (.int x1), some (.int z), some (.int (x3 + 1))] [] st) e6 K5)
theorem t_Sh_facetsOfClass {κ : Ko} {F : Int32 → AS → Prop} {a0 : Nat} {x1 : Int32} {st : AS} {v : Int32} (l_a0 : ly κ a0 = (8, 14)) (h : f_Sh_facetsOfClass κ a0 x1 st = some v) (k : F v st) : C κ M_Sh_facetsOfClass [.ref a0, .int x1] st (RI F) := by
  unfold f_Sh_facetsOfClass at h
  refine e_Sh_facetsOfClass ?_
  refine b_Sh_facetsOfClass_0  (k1 := ?_)
  refine l_Sh_facetsOfClass_4 k FU _ _ _ _ l_a0 h
noncomputable def f_X_classes (κ : Ko) (a0 : Nat) (x1 : Int32) (x2 : Int32) (st : AS) : Option Int32 := bnd (f_Pl_get κ (a0 + 21) x1 st) (fun v1 => nul v1 (some ((-1) : Int32)) (fun c2 => grd (ly κ c2 = (8, 14)) (if (wi ((x2 : Int32).toInt64) (0 : Int64) (15 : Int64)) = 0 then some ((-1) : Int32) else bnd (f_Sh_facetsOfClass κ c2 x2 st) (fun v4 => some v4))))
theorem t_X_classes {κ : Ko} {F : Int32 → AS → Prop} {a0 : Nat} {x1 : Int32} {x2 : Int32} {st : AS} {v : Int32} (l_a0 : ly κ a0 = (11, 15)) (h : f_X_classes κ a0 x1 x2 st = some v) (k : F v st) : C κ M_X_classes [.ref a0, .int x1, .int x2] st (RI F) := by
  unfold f_X_classes at h
  refine e_X_classes ?_
  obtain ⟨v1, h5, h⟩ := bnd_some h
  refine b_X_classes_0 (l_a0 := l_a0) (k1 := t_Pl_get (co11 21 5 3 rfl l_a0) h5 ?_)
  rcases v1 with _ | c2
  · replace h := nul_n h
    exact b_X_classes_8_N  (k1 := lfIP h k)
  · obtain ⟨l3, h⟩ := grd_some (nul_s h)
    refine b_X_classes_8_R  (k1 := t_X_within  rfl ?_)
    refine b_X_classes_22  (k1 := fun e6 => ?_) (k2 := fun e6 => ?_)
    · replace h := if_f e6 h
      obtain ⟨v4, h7, h⟩ := bnd_some h
      refine b_X_classes_27 (l_a3 := l3) (k1 := t_Sh_facetsOfClass l3 h7 ?_)
      exact b_X_classes_32  (k1 := lfIP h k)
    · replace h := if_t e6 h
      exact b_X_classes_25  (k1 := lfIP h k)
noncomputable def L_Sh_apartFrom_4 (κ : Ko) (st : AS) : Nat → Nat → Nat → Int32 → Int32 → Option Int32
  | 0, _, _, _, _ => none
  | d + 1, a0, a1, x2, x3 => if 16 ≤ x3 then some x2 else bnd (f_Sh_facetsOfClass κ a0 x3 st) (fun v1 => bnd (f_Sh_facetsOfClass κ a1 x3 st) (fun v2 => L_Sh_apartFrom_4 κ st  d a0 a1 (x2 + (iabs (v1 - v2))) (x3 + 1)))
noncomputable def f_Sh_apartFrom (κ : Ko) (a0 : Nat) (a1 : Nat) (st : AS) : Option Int32 := L_Sh_apartFrom_4 κ st  FU a0 a1 (0 : Int32) (0 : Int32)
theorem l_Sh_apartFrom_4 {κ : Ko} {F : Int32 → AS → Prop} {v : Int32} {st : AS} (k : F v st) : ∀ (d : Nat) (a0 : Nat) (a1 : Nat) (x2 : Int32) (x3 : Int32), ly κ a0 = (8, 14) → ly κ a1 = (8, 14) → L_Sh_apartFrom_4 κ st  d a0 a1 x2 x3 = some v → V κ M_Sh_apartFrom (RI F) 4 [some (.ref a0), some (.ref a1), some (.int x2), some (.int x3)] [] st := by
  intro d
  induction d with
  | zero =>
    intro a0 a1 x2 x3 l_a0 l_a1 h
    exact nn_some h
  | succ d ih =>
    intro a0 a1 x2 x3 l_a0 l_a1 h
    rw [L_Sh_apartFrom_4] at h
    refine b_Sh_apartFrom_4  (k1 := fun e3 => ?_) (k2 := fun e3 => ?_)
    · replace h := if_t e3 h
      exact b_Sh_apartFrom_33  (k1 := lfIP h k)
    · replace h := if_f e3 h
      obtain ⟨v1, h4, h⟩ := bnd_some h
      refine b_Sh_apartFrom_10 (l_a0 := l_a0) (k1 := t_Sh_facetsOfClass l_a0 h4 ?_)
      obtain ⟨v2, h5, h⟩ := bnd_some h
      refine b_Sh_apartFrom_16 (l_a1 := l_a1) (k1 := t_Sh_facetsOfClass l_a1 h5 ?_)
      refine b_Sh_apartFrom_21  (k1 := t_Jm_abs  rfl ?_)
      refine b_Sh_apartFrom_25  (k1 := ?_)
      exact ih _ _ _ _ l_a0 l_a1 h
theorem t_Sh_apartFrom {κ : Ko} {F : Int32 → AS → Prop} {a0 : Nat} {a1 : Nat} {st : AS} {v : Int32} (l_a0 : ly κ a0 = (8, 14)) (l_a1 : ly κ a1 = (8, 14)) (h : f_Sh_apartFrom κ a0 a1 st = some v) (k : F v st) : C κ M_Sh_apartFrom [.ref a0, .ref a1] st (RI F) := by
  unfold f_Sh_apartFrom at h
  refine e_Sh_apartFrom ?_
  refine b_Sh_apartFrom_0  (k1 := ?_)
  refine l_Sh_apartFrom_4 k FU _ _ _ _ l_a0 l_a1 h
noncomputable def f_X_apart (κ : Ko) (a0 : Nat) (x1 : Int32) (x2 : Int32) (st : AS) : Option Int32 := bnd (f_Pl_get κ (a0 + 21) x1 st) (fun v1 => nul v1 (bnd (f_Pl_get κ (a0 + 21) x2 st) (fun v8 => nul v8 (some ((-1) : Int32)) (fun c9 => grd (ly κ c9 = (8, 14)) (some ((-1) : Int32))))) (fun c2 => grd (ly κ c2 = (8, 14)) (bnd (f_Pl_get κ (a0 + 21) x2 st) (fun v4 => nul v4 (some ((-1) : Int32)) (fun c5 => grd (ly κ c5 = (8, 14)) (if x1 = x2 then some ((-1) : Int32) else bnd (f_Sh_apartFrom κ c2 c5 st) (fun v7 => some v7)))))))
theorem t_X_apart {κ : Ko} {F : Int32 → AS → Prop} {a0 : Nat} {x1 : Int32} {x2 : Int32} {st : AS} {v : Int32} (l_a0 : ly κ a0 = (11, 15)) (h : f_X_apart κ a0 x1 x2 st = some v) (k : F v st) : C κ M_X_apart [.ref a0, .int x1, .int x2] st (RI F) := by
  unfold f_X_apart at h
  refine e_X_apart ?_
  obtain ⟨v1, h11, h⟩ := bnd_some h
  refine b_X_apart_0 (l_a0 := l_a0) (k1 := t_Pl_get (co11 21 5 3 rfl l_a0) h11 ?_)
  rcases v1 with _ | c2
  · replace h := nul_n h
    obtain ⟨v8, h12, h⟩ := bnd_some h
    refine b_X_apart_8_RN (l_a0 := l_a0) (k1 := t_Pl_get (co11 21 5 3 rfl l_a0) h12 ?_)
    rcases v8 with _ | c9
    · replace h := nul_n h
      exact b_X_apart_17_NN  (k1 := lfIP h k)
    · obtain ⟨l10, h⟩ := grd_some (nul_s h)
      exact b_X_apart_17_NR  (k1 := lfIP h k)
  · obtain ⟨l3, h⟩ := grd_some (nul_s h)
    obtain ⟨v4, h13, h⟩ := bnd_some h
    refine b_X_apart_8_RR (l_a0 := l_a0) (k1 := t_Pl_get (co11 21 5 3 rfl l_a0) h13 ?_)
    rcases v4 with _ | c5
    · replace h := nul_n h
      exact b_X_apart_17_RN  (k1 := lfIP h k)
    · obtain ⟨l6, h⟩ := grd_some (nul_s h)
      refine b_X_apart_17_RR  (k1 := fun e14 => ?_) (k2 := fun e14 => ?_)
      · replace h := if_f e14 h
        obtain ⟨v7, h15, h⟩ := bnd_some h
        refine b_X_apart_35 (l_a3 := l3) (k1 := t_Sh_apartFrom l3 l6 h15 ?_)
        exact b_X_apart_41  (k1 := lfIP h k)
      · replace h := if_t e14 h
        exact b_X_apart_33  (k1 := lfIP h k)
noncomputable def L_X_likest_25 (κ : Ko) (st : AS) : Nat → Nat → Int32 → Nat → Int32 → Int32 → Int32 → Option Int32
  | 0, _, _, _, _, _, _ => none
  | d + 1, a0, x1, a2, x3, x4, x5 => if (f_Pl_size κ (a0 + 21) st) ≤ x5 then some x3 else jn (fun (v10 : Int32) => L_X_likest_25 κ st  d a0 x1 a2 (if x4 ≤ v10 then x3 else x5 : Int32) (if x4 ≤ v10 then x4 else v10 : Int32) (x5 + 1)) fun j9 => jn (j9 (2147483647 : Int32)) fun j8 => bnd (f_Pl_get κ (a0 + 21) x5 st) (fun v4 => nul v4 (j8) (fun c5 => grd (ly κ c5 = (8, 14)) (if x5 = x1 then j8 else bnd (f_Sh_apartFrom κ a2 c5 st) (fun v7 => j9 v7))))
noncomputable def f_X_likest (κ : Ko) (a0 : Nat) (x1 : Int32) (st : AS) : Option Int32 := bnd (f_Pl_get κ (a0 + 21) x1 st) (fun v1 => nul v1 (some ((-1) : Int32)) (fun c2 => grd (ly κ c2 = (8, 14)) (L_X_likest_25 κ st  FU a0 x1 c2 ((-2) : Int32) (2147483647 : Int32) (0 : Int32))))
theorem l_X_likest_25 {κ : Ko} {F : Int32 → AS → Prop} {v : Int32} {st : AS} (k : F v st) : ∀ (d : Nat) (a0 : Nat) (x1 : Int32) (a2 : Nat) (x3 : Int32) (x4 : Int32) (x5 : Int32), ly κ a0 = (11, 15) → ly κ a2 = (8, 14) → L_X_likest_25 κ st  d a0 x1 a2 x3 x4 x5 = some v → V κ M_X_likest (RI F) 25 [some (.ref a0), some (.int x1), some (.ref a2), some (.int x3), some (.int x4), some (.int x5), none, none] [] st := by
  intro d
  induction d with
  | zero =>
    intro a0 x1 a2 x3 x4 x5 l_a0 l_a2 h
    exact nn_some h
  | succ d ih =>
    intro a0 x1 a2 x3 x4 x5 l_a0 l_a2 h
    rw [L_X_likest_25] at h
    refine b_X_likest_25 (l_a0 := l_a0) (k1 := t_Pl_size (co11 21 5 3 rfl l_a0) rfl ?_)
    refine b_X_likest_34  (k1 := fun e11 => ?_) (k2 := fun e11 => ?_)
    · replace h := if_t e11 h
      exact b_X_likest_92  (k1 := lfIP h k)
    · replace h := if_f e11 h
      obtain ⟨j9, hdj9, h⟩ := jn_some h
      have hj9 : ∀ (v10 : Int32), j9 v10 = some v → V κ M_X_likest (RI F) 70 [some (.ref a0), some (.int x1), some (.ref a2), some (.int x3), some (.int x4), some (.int x5), none, none] [.int v10] st := by
        intro v10 h
        rw [hdj9] at h
        have K13 : V κ M_X_likest (RI F) 25 [some (.ref a0), some (.int x1), some (.ref a2), some (.int (if x4 ≤ v10 then x3 else x5 : Int32)), some (.int (if x4 ≤ v10 then x4 else v10 : Int32)), some (.int (x5 + 1)), none, none] [] st := by
          exact ih _ _ _ _ _ _ l_a0 l_a2 h
        refine b_X_likest_70  (k1 := fun e14 => ?_) (k2 := fun e14 => ?_)
        · refine b_X_likest_86  (k1 := ?_)
          exact (ite_t (P := fun z => V κ M_X_likest (RI F) 25 [some (.ref a0), some (.int x1), some (.ref a2), some (.int x3), some (.int z), some (.int (x5 + 1)), none, none] [] st) e14 (ite_t (P := fun z => V κ M_X_likest (RI F) 25 [some (.ref a0), some (.int x1), some (.ref a2), some (.int z), some (.int (if x4 ≤ v10 then x4 else v10 : Int32)), some (.int (x5 + 1)), none, none] [] st) e14 K13))
        · refine b_X_likest_79  (k1 := ?_)
          exact (ite_f (P := fun z => V κ M_X_likest (RI F) 25 [some (.ref a0), some (.int x1), some (.ref a2), some (.int x5), some (.int z), some (.int (x5 + 1)), none, none] [] st) e14 (ite_f (P := fun z => V κ M_X_likest (RI F) 25 [some (.ref a0), some (.int x1), some (.ref a2), some (.int z), some (.int (if x4 ≤ v10 then x4 else v10 : Int32)), some (.int (x5 + 1)), none, none] [] st) e14 K13))
      clear hdj9
      obtain ⟨j8, hdj8, h⟩ := jn_some h
      have hj8 : j8 = some v → V κ M_X_likest (RI F) 59 [some (.ref a0), some (.int x1), some (.ref a2), some (.int x3), some (.int x4), some (.int x5), none, none] [] st := by
        intro h
        rw [hdj8] at h
        refine b_X_likest_59  (k1 := ?_)
        exact hj9 _  h
      clear hdj8
      obtain ⟨v4, h15, h⟩ := bnd_some h
      refine b_X_likest_37 (l_a0 := l_a0) (k1 := t_Pl_get (co11 21 5 3 rfl l_a0) h15 ?_)
      rcases v4 with _ | c5
      · replace h := nul_n h
        refine b_X_likest_46_RRN  (k1 := ?_)
        exact hj8  h
      · obtain ⟨l6, h⟩ := grd_some (nul_s h)
        refine b_X_likest_46_RRR  (k1 := fun e16 => ?_) (k2 := fun e16 => ?_)
        · replace h := if_f e16 h
          obtain ⟨v7, h17, h⟩ := bnd_some h
          refine b_X_likest_64 (l_a2 := l_a2) (k1 := t_Sh_apartFrom l_a2 l6 h17 ?_)
          exact hj9 _  h
        · replace h := if_t e16 h
          exact hj8  h
theorem t_X_likest {κ : Ko} {F : Int32 → AS → Prop} {a0 : Nat} {x1 : Int32} {st : AS} {v : Int32} (l_a0 : ly κ a0 = (11, 15)) (h : f_X_likest κ a0 x1 st = some v) (k : F v st) : C κ M_X_likest [.ref a0, .int x1] st (RI F) := by
  unfold f_X_likest at h
  refine e_X_likest ?_
  obtain ⟨v1, h18, h⟩ := bnd_some h
  refine b_X_likest_0 (l_a0 := l_a0) (k1 := t_Pl_get (co11 21 5 3 rfl l_a0) h18 ?_)
  rcases v1 with _ | c2
  · replace h := nul_n h
    exact b_X_likest_8_RN  (k1 := lfIP h k)
  · obtain ⟨l3, h⟩ := grd_some (nul_s h)
    refine b_X_likest_8_RR  (k1 := ?_)
    refine l_X_likest_25 k FU _ _ _ _ _ _ l_a0 l3 h
noncomputable def f_X_ruleAt (κ : Ko) (a0 : Nat) (x1 : Int32) (st : AS) : Option (Option Nat) := jn (some none) fun j5 => if (wi ((x1 : Int32).toInt64) (0 : Int64) (((gat (gi st (a0 + 7)) 4 (2 : Int32)) - 1 : Int32).toInt64)) = 0 then j5 else if 6 ≤ x1 then j5 else grd (vp_in x1 6) (bnd (gr st (a0 + 10) (x1 : Int32).toNatClampNeg) (fun c3 => grd (ly κ c3 = (7, 5)) (some (some c3))))
theorem t_X_ruleAt {κ : Ko} {F : Value → AS → Prop} {a0 : Nat} {x1 : Int32} {st : AS} {v : Option Nat} (l_a0 : ly κ a0 = (11, 15)) (h : f_X_ruleAt κ a0 x1 st = some v) (k : F (vof v) st) : C κ M_X_ruleAt [.ref a0, .int x1] st (RR F) := by
  unfold f_X_ruleAt at h
  refine e_X_ruleAt ?_
  refine b_X_ruleAt_0 (l_a0 := l_a0) (k1 := t_X_at (co11 7 50 4 rfl l_a0) rfl ?_)
  refine b_X_ruleAt_11  (k1 := t_X_within  rfl ?_)
  obtain ⟨j5, hdj5, h⟩ := jn_some h
  have hj5 : j5 = some v → V κ M_X_ruleAt (RR F) 38 [none, none] [] st := by
    intro h
    rw [hdj5] at h
    exact b_X_ruleAt_38  (k1 := lfR0P h k)
  clear hdj5
  refine b_X_ruleAt_17  (k1 := fun e6 => ?_) (k2 := fun e6 => ?_)
  · replace h := if_t e6 h
    exact hj5  h
  · replace h := if_f e6 h
    refine b_X_ruleAt_20 (l_a0 := l_a0) (k1 := fun e7 => ?_) (k2 := fun e7 => ?_)
    · replace h := if_t e7 h
      exact hj5  h
    · replace h := if_f e7 h
      obtain ⟨h1, h⟩ := grd_some h
      obtain ⟨c3, h2, h⟩ := bnd_some h
      obtain ⟨l4, h⟩ := grd_some h
      exact b_X_ruleAt_29 (l_a0 := l_a0) (b1 := h1) (g2 := h2) (k3 := lfR1P h k)
noncomputable def f_Sh_endsAtEdge (κ : Ko) (a0 : Nat) (x1 : Int32) (x2 : Int32) (st : AS) : Option Int32 := bnd (f_Sh_ridgePart κ a0 x1 (0 : Int32) st) (fun v1 => bnd (f_Sh_ridgePart κ a0 x1 x2 st) (fun v2 => jn (some (1 : Int32)) fun j3 => if v2 = 0 then j3 else if v2 = (if v1 = 0 then gi st a0 9 else gi st a0 8 : Int32) then j3 else some (0 : Int32)))
theorem t_Sh_endsAtEdge {κ : Ko} {F : Int32 → AS → Prop} {a0 : Nat} {x1 : Int32} {x2 : Int32} {st : AS} {v : Int32} (l_a0 : ly κ a0 = (8, 14)) (h : f_Sh_endsAtEdge κ a0 x1 x2 st = some v) (k : F v st) : C κ M_Sh_endsAtEdge [.ref a0, .int x1, .int x2] st (RI F) := by
  unfold f_Sh_endsAtEdge at h
  refine e_Sh_endsAtEdge ?_
  obtain ⟨v1, h4, h⟩ := bnd_some h
  refine b_Sh_endsAtEdge_0 (l_a0 := l_a0) (k1 := t_Sh_ridgePart l_a0 h4 ?_)
  have K6 : V κ M_Sh_endsAtEdge (RI F) 20 [some (.ref a0), some (.int x1), some (.int x2), none, none] [.int (if v1 = 0 then gi st a0 9 else gi st a0 8 : Int32)] st := by
    obtain ⟨v2, h7, h⟩ := bnd_some h
    refine b_Sh_endsAtEdge_20 (l_a0 := l_a0) (k1 := t_Sh_ridgePart l_a0 h7 ?_)
    obtain ⟨j3, hdj3, h⟩ := jn_some h
    have hj3 : j3 = some v → V κ M_Sh_endsAtEdge (RI F) 40 [none, none, none, none, none] [] st := by
      intro h
      rw [hdj3] at h
      exact b_Sh_endsAtEdge_40  (k1 := lfIP h k)
    clear hdj3
    refine b_Sh_endsAtEdge_27  (k1 := fun e8 => ?_) (k2 := fun e8 => ?_)
    · replace h := if_t e8 h
      exact hj3  h
    · replace h := if_f e8 h
      refine b_Sh_endsAtEdge_34  (k1 := fun e9 => ?_) (k2 := fun e9 => ?_)
      · replace h := if_f e9 h
        exact b_Sh_endsAtEdge_44  (k1 := lfIP h k)
      · replace h := if_t e9 h
        exact hj3  h
  refine b_Sh_endsAtEdge_6  (k1 := fun e10 => ?_) (k2 := fun e10 => ?_)
  · refine b_Sh_endsAtEdge_16 (l_a0 := l_a0) (k1 := ?_)
    exact (ite_f (P := fun z => V κ M_Sh_endsAtEdge (RI F) 20 [some (.ref a0), some (.int x1), some (.int x2), none, none] [.int z] st) e10 K6)
  · refine b_Sh_endsAtEdge_9 (l_a0 := l_a0) (k1 := ?_)
    exact (ite_t (P := fun z => V κ M_Sh_endsAtEdge (RI F) 20 [some (.ref a0), some (.int x1), some (.int x2), none, none] [.int z] st) e10 K6)
noncomputable def f_Si_fillWords (κ : Ko) (a0 : Nat) (x1 : Int32) (st : AS) : Option AS := bnd (gr st a0 2) (fun c2 => grd (ly κ c2 = (8, 14)) (bnd (f_Sh_endsAtEdge κ c2 x1 (2 : Int32) st) (fun v4 => bnd (gr st a0 2) (fun c6 => grd (ly κ c6 = (8, 14)) (bnd (f_Sh_endsAtEdge κ c6 x1 (3 : Int32) st) (fun v8 => bnd (gr st a0 2) (fun c10 => grd (ly κ c10 = (8, 14)) (bnd (f_Sh_lengthOf κ c10 x1 st) (fun v12 => bnd (gr (gputL st (a0 + 2) 8 (0 : Int32) ((v12 : Int32).toInt64)) a0 2) (fun c14 => grd (ly κ c14 = (8, 14)) (bnd (f_Sh_ridgePart κ c14 x1 (4 : Int32) (gputL st (a0 + 2) 8 (0 : Int32) ((v12 : Int32).toInt64))) (fun v16 => bnd (gr (gputL (gputL st (a0 + 2) 8 (0 : Int32) ((v12 : Int32).toInt64)) (a0 + 2) 8 (1 : Int32) ((v16 : Int32).toInt64)) a0 2) (fun c18 => grd (ly κ c18 = (8, 14)) (bnd (f_Sh_ridgePart κ c18 x1 (6 : Int32) (gputL (gputL st (a0 + 2) 8 (0 : Int32) ((v12 : Int32).toInt64)) (a0 + 2) 8 (1 : Int32) ((v16 : Int32).toInt64))) (fun v20 => bnd (gr (gputL (gputL (gputL st (a0 + 2) 8 (0 : Int32) ((v12 : Int32).toInt64)) (a0 + 2) 8 (1 : Int32) ((v16 : Int32).toInt64)) (a0 + 2) 8 (2 : Int32) ((v20 : Int32).toInt64)) a0 2) (fun c22 => grd (ly κ c22 = (8, 14)) (bnd (f_Sh_ridgePart κ c22 x1 (5 : Int32) (gputL (gputL (gputL st (a0 + 2) 8 (0 : Int32) ((v12 : Int32).toInt64)) (a0 + 2) 8 (1 : Int32) ((v16 : Int32).toInt64)) (a0 + 2) 8 (2 : Int32) ((v20 : Int32).toInt64))) (fun v24 => bnd (gr (gputL (gputL (gputL (gputL st (a0 + 2) 8 (0 : Int32) ((v12 : Int32).toInt64)) (a0 + 2) 8 (1 : Int32) ((v16 : Int32).toInt64)) (a0 + 2) 8 (2 : Int32) ((v20 : Int32).toInt64)) (a0 + 2) 8 (3 : Int32) ((v24 : Int32).toInt64)) a0 2) (fun c26 => grd (ly κ c26 = (8, 14)) (bnd (f_Sh_ridgePart κ c26 x1 (0 : Int32) (gputL (gputL (gputL (gputL st (a0 + 2) 8 (0 : Int32) ((v12 : Int32).toInt64)) (a0 + 2) 8 (1 : Int32) ((v16 : Int32).toInt64)) (a0 + 2) 8 (2 : Int32) ((v20 : Int32).toInt64)) (a0 + 2) 8 (3 : Int32) ((v24 : Int32).toInt64))) (fun v28 => bnd (gr (gputL (gputL (gputL (gputL (gputL st (a0 + 2) 8 (0 : Int32) ((v12 : Int32).toInt64)) (a0 + 2) 8 (1 : Int32) ((v16 : Int32).toInt64)) (a0 + 2) 8 (2 : Int32) ((v20 : Int32).toInt64)) (a0 + 2) 8 (3 : Int32) ((v24 : Int32).toInt64)) (a0 + 2) 8 (4 : Int32) ((v28 : Int32).toInt64)) a0 2) (fun c30 => grd (ly κ c30 = (8, 14)) (bnd (f_Sh_ridgePart κ c30 x1 (1 : Int32) (gputL (gputL (gputL (gputL (gputL st (a0 + 2) 8 (0 : Int32) ((v12 : Int32).toInt64)) (a0 + 2) 8 (1 : Int32) ((v16 : Int32).toInt64)) (a0 + 2) 8 (2 : Int32) ((v20 : Int32).toInt64)) (a0 + 2) 8 (3 : Int32) ((v24 : Int32).toInt64)) (a0 + 2) 8 (4 : Int32) ((v28 : Int32).toInt64))) (fun v32 => bnd (gr (gputL (gputL (gputL (gputL (gputL (gputL (gputL st (a0 + 2) 8 (0 : Int32) ((v12 : Int32).toInt64)) (a0 + 2) 8 (1 : Int32) ((v16 : Int32).toInt64)) (a0 + 2) 8 (2 : Int32) ((v20 : Int32).toInt64)) (a0 + 2) 8 (3 : Int32) ((v24 : Int32).toInt64)) (a0 + 2) 8 (4 : Int32) ((v28 : Int32).toInt64)) (a0 + 2) 8 (5 : Int32) ((v32 : Int32).toInt64)) (a0 + 2) 8 (6 : Int32) ((((if v4 = 0 then (0 : Int32) else (1 : Int32) : Int32) + (if v8 = 0 then (0 : Int32) else (1 : Int32) : Int32)) : Int32).toInt64)) a0 2) (fun c34 => grd (ly κ c34 = (8, 14)) (some (gputL (gputL (gputL (gputL (gputL (gputL (gputL (gputL st (a0 + 2) 8 (0 : Int32) ((v12 : Int32).toInt64)) (a0 + 2) 8 (1 : Int32) ((v16 : Int32).toInt64)) (a0 + 2) 8 (2 : Int32) ((v20 : Int32).toInt64)) (a0 + 2) 8 (3 : Int32) ((v24 : Int32).toInt64)) (a0 + 2) 8 (4 : Int32) ((v28 : Int32).toInt64)) (a0 + 2) 8 (5 : Int32) ((v32 : Int32).toInt64)) (a0 + 2) 8 (6 : Int32) ((((if v4 = 0 then (0 : Int32) else (1 : Int32) : Int32) + (if v8 = 0 then (0 : Int32) else (1 : Int32) : Int32)) : Int32).toInt64)) (a0 + 2) 8 (7 : Int32) (((f_Sh_rounds κ c34 (gputL (gputL (gputL (gputL (gputL (gputL (gputL st (a0 + 2) 8 (0 : Int32) ((v12 : Int32).toInt64)) (a0 + 2) 8 (1 : Int32) ((v16 : Int32).toInt64)) (a0 + 2) 8 (2 : Int32) ((v20 : Int32).toInt64)) (a0 + 2) 8 (3 : Int32) ((v24 : Int32).toInt64)) (a0 + 2) 8 (4 : Int32) ((v28 : Int32).toInt64)) (a0 + 2) 8 (5 : Int32) ((v32 : Int32).toInt64)) (a0 + 2) 8 (6 : Int32) ((((if v4 = 0 then (0 : Int32) else (1 : Int32) : Int32) + (if v8 = 0 then (0 : Int32) else (1 : Int32) : Int32)) : Int32).toInt64))) : Int32).toInt64))))))))))))))))))))))))))))
theorem t_Si_fillWords {κ : Ko} {F : AS → Prop} {a0 : Nat} {x1 : Int32} {st : AS} {s' : AS} (l_a0 : ly κ a0 = (9, 4)) (h : f_Si_fillWords κ a0 x1 st = some s') (k : F s') : C κ M_Si_fillWords [.ref a0, .int x1] st (RV F) := by
  unfold f_Si_fillWords at h
  refine e_Si_fillWords ?_
  obtain ⟨c2, h1, h⟩ := bnd_some h
  obtain ⟨l3, h⟩ := grd_some h
  obtain ⟨v4, h36, h⟩ := bnd_some h
  refine b_Si_fillWords_0 (l_a0 := l_a0) (g1 := h1) (l_r2 := l3) (k2 := t_Sh_endsAtEdge l3 h36 ?_)
  have K38 : V κ M_Si_fillWords (RV F) 17 [some (.ref a0), some (.int x1), none] [.int (if v4 = 0 then (0 : Int32) else (1 : Int32) : Int32)] st := by
    obtain ⟨c6, h5, h⟩ := bnd_some h
    obtain ⟨l7, h⟩ := grd_some h
    obtain ⟨v8, h39, h⟩ := bnd_some h
    refine b_Si_fillWords_17 (l_a0 := l_a0) (g1 := h5) (l_r3 := l7) (k2 := t_Sh_endsAtEdge l7 h39 ?_)
    have K41 : V κ M_Si_fillWords (RV F) 36 [some (.ref a0), some (.int x1), none] [.int (if v8 = 0 then (0 : Int32) else (1 : Int32) : Int32), .int (if v4 = 0 then (0 : Int32) else (1 : Int32) : Int32)] st := by
      obtain ⟨c10, h9, h⟩ := bnd_some h
      obtain ⟨l11, h⟩ := grd_some h
      obtain ⟨v12, h42, h⟩ := bnd_some h
      refine b_Si_fillWords_36 (l_a0 := l_a0) (g1 := h9) (l_r4 := l11) (k2 := t_Sh_lengthOf l11 h42 ?_)
      refine b_Si_fillWords_51  (k1 := t_X_putL (co9 2 51 8 rfl l_a0) rfl ?_)
      obtain ⟨c14, h13, h⟩ := bnd_some h
      obtain ⟨l15, h⟩ := grd_some h
      obtain ⟨v16, h43, h⟩ := bnd_some h
      refine b_Si_fillWords_55 (l_a0 := l_a0) (g1 := h13) (l_r3 := l15) (k2 := t_Sh_ridgePart l15 h43 ?_)
      refine b_Si_fillWords_69  (k1 := t_X_putL (co9 2 51 8 rfl l_a0) rfl ?_)
      obtain ⟨c18, h17, h⟩ := bnd_some h
      obtain ⟨l19, h⟩ := grd_some h
      obtain ⟨v20, h44, h⟩ := bnd_some h
      refine b_Si_fillWords_73 (l_a0 := l_a0) (g1 := h17) (l_r3 := l19) (k2 := t_Sh_ridgePart l19 h44 ?_)
      refine b_Si_fillWords_88  (k1 := t_X_putL (co9 2 51 8 rfl l_a0) rfl ?_)
      obtain ⟨c22, h21, h⟩ := bnd_some h
      obtain ⟨l23, h⟩ := grd_some h
      obtain ⟨v24, h45, h⟩ := bnd_some h
      refine b_Si_fillWords_92 (l_a0 := l_a0) (g1 := h21) (l_r3 := l23) (k2 := t_Sh_ridgePart l23 h45 ?_)
      refine b_Si_fillWords_106  (k1 := t_X_putL (co9 2 51 8 rfl l_a0) rfl ?_)
      obtain ⟨c26, h25, h⟩ := bnd_some h
      obtain ⟨l27, h⟩ := grd_some h
      obtain ⟨v28, h46, h⟩ := bnd_some h
      refine b_Si_fillWords_110 (l_a0 := l_a0) (g1 := h25) (l_r3 := l27) (k2 := t_Sh_ridgePart l27 h46 ?_)
      refine b_Si_fillWords_124  (k1 := t_X_putL (co9 2 51 8 rfl l_a0) rfl ?_)
      obtain ⟨c30, h29, h⟩ := bnd_some h
      obtain ⟨l31, h⟩ := grd_some h
      obtain ⟨v32, h47, h⟩ := bnd_some h
      refine b_Si_fillWords_128 (l_a0 := l_a0) (g1 := h29) (l_r3 := l31) (k2 := t_Sh_ridgePart l31 h47 ?_)
      refine b_Si_fillWords_142  (k1 := t_X_putL (co9 2 51 8 rfl l_a0) rfl ?_)
      refine b_Si_fillWords_146 (l_a0 := l_a0) (k1 := t_X_putL (co9 2 51 8 rfl l_a0) rfl ?_)
      obtain ⟨c34, h33, h⟩ := bnd_some h
      obtain ⟨l35, h⟩ := grd_some h
      refine b_Si_fillWords_157 (l_a0 := l_a0) (g1 := h33) (l_r1 := l35) (k2 := t_Sh_rounds l35 rfl ?_)
      refine b_Si_fillWords_170  (k1 := t_X_putL (co9 2 51 8 rfl l_a0) rfl ?_)
      exact b_Si_fillWords_174  (k1 := lfV h k)
    refine b_Si_fillWords_28  (k1 := fun e48 => ?_) (k2 := fun e48 => ?_)
    · refine b_Si_fillWords_35  (k1 := ?_)
      exact (ite_t (P := fun z => V κ M_Si_fillWords (RV F) 36 [some (.ref a0), some (.int x1), none] [.int z, .int (if v4 = 0 then (0 : Int32) else (1 : Int32) : Int32)] st) e48 K41)
    · refine b_Si_fillWords_31  (k1 := ?_)
      exact (ite_f (P := fun z => V κ M_Si_fillWords (RV F) 36 [some (.ref a0), some (.int x1), none] [.int z, .int (if v4 = 0 then (0 : Int32) else (1 : Int32) : Int32)] st) e48 K41)
  refine b_Si_fillWords_9  (k1 := fun e49 => ?_) (k2 := fun e49 => ?_)
  · refine b_Si_fillWords_16  (k1 := ?_)
    exact (ite_t (P := fun z => V κ M_Si_fillWords (RV F) 17 [some (.ref a0), some (.int x1), none] [.int z] st) e49 K38)
  · refine b_Si_fillWords_12  (k1 := ?_)
    exact (ite_f (P := fun z => V κ M_Si_fillWords (RV F) 17 [some (.ref a0), some (.int x1), none] [.int z] st) e49 K38)
noncomputable def L_Ru_sees_7 (κ : Ko) (k_99 : Int32 → Int32 → AS → Option (Int32 × AS)) : Nat → Nat → Nat → Nat → Int32 → Int32 → Int32 → AS → Option (Int32 × AS)
  | 0, _, _, _, _, _, _, _ => none
  | d + 1, a0, a1, n1, x2, x3, x4, st => if (gi st a0 4) ≤ x4 then k_99 x2 x3 st else bnd2 (f_Cd_valueOf κ (a0 + 1) (gat (gi st (a0 + 6)) 12 x4) (gat (gi st (a0 + 7)) 12 x4) a1 n1 st) (fun v1 s2 => if (gat (gi s2 (a0 + 5)) 12 x4) = 0 then jn (L_Ru_sees_7 κ k_99 d a0 a1 n1 (1 : Int32) (1 : Int32) (x4 + 1) s2) fun j3 => if x3 = 0 then if (if v1 = 0 then (0 : Int32) else (1 : Int32) : Int32) = 0 then L_Ru_sees_7 κ k_99 d a0 a1 n1 (1 : Int32) (0 : Int32) (x4 + 1) s2 else j3 else j3 else if (if v1 = 0 then (0 : Int32) else (1 : Int32) : Int32) = 0 then L_Ru_sees_7 κ k_99 d a0 a1 n1 x2 x3 (x4 + 1) s2 else some ((0 : Int32), s2))
noncomputable def f_Ru_sees (κ : Ko) (a0 : Nat) (a1 : Nat) (n1 : Nat) (st : AS) : Option (Int32 × AS) := L_Ru_sees_7 κ (fun (v13 : Int32) (v14 : Int32) (s15 : AS) => jn (some ((1 : Int32), s15)) fun j16 => if v14 = 0 then if v13 = 0 then j16 else some ((0 : Int32), s15) else j16) FU a0 a1 n1 (0 : Int32) (0 : Int32) (0 : Int32) st
theorem l_Ru_sees_7 {κ : Ko} {F : Int32 → AS → Prop} {v : Int32} {s' : AS} (k : F v s') {k_99 : Int32 → Int32 → AS → Option (Int32 × AS)} (hk_99 : ∀ (x2 : Int32) (x3 : Int32) (st : AS), k_99 x2 x3 st = some (v, s') → V κ M_Ru_sees (RI F) 99 [none, none, some (.int x2), some (.int x3), none, none] [] st) : ∀ (d : Nat) (a0 : Nat) (a1 n1 : Nat) (x2 : Int32) (x3 : Int32) (x4 : Int32) (st : AS), ly κ a0 = (7, 5) → ly κ a1 = (51, n1) → L_Ru_sees_7 κ k_99 d a0 a1 n1 x2 x3 x4 st = some (v, s') → V κ M_Ru_sees (RI F) 7 [some (.ref a0), some (.ref a1), some (.int x2), some (.int x3), some (.int x4), none] [] st := by
  intro d
  induction d with
  | zero =>
    intro a0 a1 n1 x2 x3 x4 st l_a0 l_a1 h
    exact nn_some h
  | succ d ih =>
    intro a0 a1 n1 x2 x3 x4 st l_a0 l_a1 h
    rw [L_Ru_sees_7] at h
    refine b_Ru_sees_7 (l_a0 := l_a0) (k1 := fun e4 => ?_) (k2 := fun e4 => ?_)
    · replace h := if_t e4 h
      exact hk_99 _ _ _  h
    · replace h := if_f e4 h
      refine b_Ru_sees_16 (l_a0 := l_a0) (k1 := t_X_at (co7 6 50 12 rfl l_a0) rfl ?_)
      refine b_Ru_sees_29 (l_a0 := l_a0) (k1 := t_X_at (co7 7 50 12 rfl l_a0) rfl ?_)
      obtain ⟨v1, s2, h5, h⟩ := bnd2_some h
      refine b_Ru_sees_38 (l_c0 := (co7 1 0 4 rfl l_a0)) (k1 := t_Cd_valueOf (co7 1 0 4 rfl l_a0) l_a1 h5 ?_)
      have K7 : V κ M_Ru_sees (RI F) 52 [some (.ref a0), some (.ref a1), some (.int x2), some (.int x3), some (.int x4), none] [.int (if v1 = 0 then (0 : Int32) else (1 : Int32) : Int32)] s2 := by
        refine b_Ru_sees_52 (l_a0 := l_a0) (k1 := t_X_at (co7 5 50 12 rfl l_a0) rfl ?_)
        refine b_Ru_sees_63  (k1 := fun e8 => ?_) (k2 := fun e8 => ?_)
        · replace h := if_f e8 h
          refine b_Ru_sees_86  (k1 := fun e9 => ?_) (k2 := fun e9 => ?_)
          · replace h := if_t e9 h
            refine b_Ru_sees_93  (k1 := ?_)
            exact ih _ _ _ _ _ _ _ l_a0 l_a1 h
          · replace h := if_f e9 h
            exact b_Ru_sees_91  (k1 := lfI h k)
        · replace h := if_t e8 h
          obtain ⟨j3, hdj3, h⟩ := jn_some h
          have hj3 : j3 = some (v, s') → V κ M_Ru_sees (RI F) 77 [some (.ref a0), some (.ref a1), some (.int (1 : Int32)), none, some (.int x4), none] [] s2 := by
            intro h
            rw [hdj3] at h
            refine b_Ru_sees_77  (k1 := ?_)
            exact ih _ _ _ _ _ _ _ l_a0 l_a1 h
          clear hdj3
          refine b_Ru_sees_66  (k1 := fun e10 => ?_) (k2 := fun e10 => ?_)
          · replace h := if_f e10 h
            exact hj3  h
          · replace h := if_t e10 h
            refine b_Ru_sees_72  (k1 := fun e11 => ?_) (k2 := fun e11 => ?_)
            · replace h := if_t e11 h
              refine b_Ru_sees_81  (k1 := ?_)
              exact ih _ _ _ _ _ _ _ l_a0 l_a1 h
            · replace h := if_f e11 h
              exact hj3  h
      refine b_Ru_sees_42  (k1 := fun e12 => ?_) (k2 := fun e12 => ?_)
      · refine b_Ru_sees_51  (k1 := ?_)
        exact (ite_t (P := fun z => V κ M_Ru_sees (RI F) 52 [some (.ref a0), some (.ref a1), some (.int x2), some (.int x3), some (.int x4), none] [.int z] s2) e12 K7)
      · refine b_Ru_sees_47  (k1 := ?_)
        exact (ite_f (P := fun z => V κ M_Ru_sees (RI F) 52 [some (.ref a0), some (.ref a1), some (.int x2), some (.int x3), some (.int x4), none] [.int z] s2) e12 K7)
theorem t_Ru_sees {κ : Ko} {F : Int32 → AS → Prop} {a0 : Nat} {a1 : Nat} {n1 : Nat} {st : AS} {v : Int32} {s' : AS} (l_a0 : ly κ a0 = (7, 5)) (l_a1 : ly κ a1 = (51, n1)) (h : f_Ru_sees κ a0 a1 n1 st = some (v, s')) (k : F v s') : C κ M_Ru_sees [.ref a0, .ref a1] st (RI F) := by
  unfold f_Ru_sees at h
  refine e_Ru_sees ?_
  refine b_Ru_sees_0  (k1 := ?_)
  refine l_Ru_sees_7 k ?_ FU _ _ _ _ _ _ _ l_a0 l_a1 h
  · intro v13 v14 s15 h
    obtain ⟨j16, hdj16, h⟩ := jn_some h
    have hj16 : j16 = some (v, s') → V κ M_Ru_sees (RI F) 107 [none, none, none, none, none, none] [] s15 := by
      intro h
      rw [hdj16] at h
      exact b_Ru_sees_107  (k1 := lfI h k)
    clear hdj16
    refine b_Ru_sees_99  (k1 := fun e17 => ?_) (k2 := fun e17 => ?_)
    · replace h := if_f e17 h
      exact hj16  h
    · replace h := if_t e17 h
      refine b_Ru_sees_103  (k1 := fun e18 => ?_) (k2 := fun e18 => ?_)
      · replace h := if_f e18 h
        exact b_Ru_sees_111  (k1 := lfI h k)
      · replace h := if_t e18 h
        exact hj16  h
noncomputable def L_Si_look_15 (κ : Ko) : Nat → Nat → Nat → Int32 → AS → Option AS
  | 0, _, _, _, _ => none
  | d + 1, a0, a1, x3, st => if (gi st a0 3) ≤ x3 then some st else bnd (f_Si_fillWords κ a0 x3 st) (fun s1 => bnd2 (f_Ru_sees κ a1 (a0 + 2) 8 s1) (fun v2 s3 => L_Si_look_15 κ  d a0 a1 (x3 + 1) (gput s3 (a0 + 1) 400 x3 (if v2 = 0 then (0 : Int32) else (1 : Int32) : Int32))))
noncomputable def f_Si_look (κ : Ko) (a0 : Nat) (a1 : Nat) (a2 : Nat) (st : AS) : Option AS := L_Si_look_15 κ  FU a0 a1 (0 : Int32) (ui (ur st a0 2 (some a2)) a0 3 (f_Sh_ridgeCount κ a2 (ur st a0 2 (some a2))))
theorem l_Si_look_15 {κ : Ko} {F : AS → Prop} {s' : AS} (k : F s') : ∀ (d : Nat) (a0 : Nat) (a1 : Nat) (x3 : Int32) (st : AS), ly κ a0 = (9, 4) → ly κ a1 = (7, 5) → L_Si_look_15 κ  d a0 a1 x3 st = some s' → V κ M_Si_look (RV F) 15 [some (.ref a0), some (.ref a1), none, some (.int x3)] [] st := by
  intro d
  induction d with
  | zero =>
    intro a0 a1 x3 st l_a0 l_a1 h
    exact nn_some h
  | succ d ih =>
    intro a0 a1 x3 st l_a0 l_a1 h
    rw [L_Si_look_15] at h
    refine b_Si_look_15 (l_a0 := l_a0) (k1 := fun e4 => ?_) (k2 := fun e4 => ?_)
    · replace h := if_t e4 h
      exact b_Si_look_58  (k1 := lfV h k)
    · replace h := if_f e4 h
      obtain ⟨s1, h5, h⟩ := bnd_some h
      refine b_Si_look_23 (l_a0 := l_a0) (k1 := t_Si_fillWords l_a0 h5 ?_)
      obtain ⟨v2, s3, h6, h⟩ := bnd2_some h
      refine b_Si_look_28 (l_a0 := l_a0) (l_a1 := l_a1) (k1 := t_Ru_sees l_a1 (co9 2 51 8 rfl l_a0) h6 ?_)
      have K8 : V κ M_Si_look (RV F) 49 [some (.ref a0), some (.ref a1), none, some (.int x3)] [.int (if v2 = 0 then (0 : Int32) else (1 : Int32) : Int32), .int x3, .ref (a0 + 1)] s3 := by
        refine b_Si_look_49  (k1 := t_X_put (co9 1 50 400 rfl l_a0) rfl ?_)
        refine b_Si_look_52  (k1 := ?_)
        exact ih _ _ _ _ l_a0 l_a1 h
      refine b_Si_look_41  (k1 := fun e9 => ?_) (k2 := fun e9 => ?_)
      · refine b_Si_look_48  (k1 := ?_)
        exact (ite_t (P := fun z => V κ M_Si_look (RV F) 49 [some (.ref a0), some (.ref a1), none, some (.int x3)] [.int z, .int x3, .ref (a0 + 1)] s3) e9 K8)
      · refine b_Si_look_44  (k1 := ?_)
        exact (ite_f (P := fun z => V κ M_Si_look (RV F) 49 [some (.ref a0), some (.ref a1), none, some (.int x3)] [.int z, .int x3, .ref (a0 + 1)] s3) e9 K8)
theorem t_Si_look {κ : Ko} {F : AS → Prop} {a0 : Nat} {a1 : Nat} {a2 : Nat} {st : AS} {s' : AS} (l_a0 : ly κ a0 = (9, 4)) (l_a1 : ly κ a1 = (7, 5)) (l_a2 : ly κ a2 = (8, 14)) (h : f_Si_look κ a0 a1 a2 st = some s') (k : F s') : C κ M_Si_look [.ref a0, .ref a1, .ref a2] st (RV F) := by
  unfold f_Si_look at h
  refine e_Si_look ?_
  refine b_Si_look_0 (l_a0 := l_a0) (l_a2 := l_a2) (k1 := t_Sh_ridgeCount l_a2 rfl ?_)
  refine b_Si_look_10 (l_c0 := l_a0) (k1 := ?_)
  refine l_Si_look_15 k FU _ _ _ _ l_a0 l_a1 h
noncomputable def f_Si_isSeen (κ : Ko) (a0 : Nat) (x1 : Int32) (st : AS) : Int32 := (if (gat (gi st (a0 + 1)) 400 x1) = 1 then (1 : Int32) else (0 : Int32) : Int32)
theorem t_Si_isSeen {κ : Ko} {F : Int32 → AS → Prop} {a0 : Nat} {x1 : Int32} {st : AS} {v : Int32} (l_a0 : ly κ a0 = (9, 4)) (h : f_Si_isSeen κ a0 x1 st = v) (k : F v st) : C κ M_Si_isSeen [.ref a0, .int x1] st (RI F) := by
  unfold f_Si_isSeen at h
  refine e_Si_isSeen ?_
  refine b_Si_isSeen_0 (l_a0 := l_a0) (k1 := t_X_at (co9 1 50 400 rfl l_a0) rfl ?_)
  have K2 : (RI F) (some (.int (if (gat (gi st (a0 + 1)) 400 x1) = 1 then (1 : Int32) else (0 : Int32) : Int32))) st := lfIPT h k
  refine b_Si_isSeen_8  (k1 := fun e3 => ?_) (k2 := fun e3 => ?_)
  · exact b_Si_isSeen_16  (k1 := (ite_f (P := fun z => (RI F) (some (.int z)) st) e3 K2))
  · exact b_Si_isSeen_12  (k1 := (ite_t (P := fun z => (RI F) (some (.int z)) st) e3 K2))
noncomputable def L_Si_seenRidges_4 (κ : Ko) (st : AS) : Nat → Nat → Int32 → Int32 → Option Int32
  | 0, _, _, _ => none
  | d + 1, a0, x1, x2 => if (gi st a0 3) ≤ x2 then some x1 else L_Si_seenRidges_4 κ st  d a0 (if (f_Si_isSeen κ a0 x2 st) = 0 then x1 + 0 else x1 + 1 : Int32) (x2 + 1)
noncomputable def f_Si_seenRidges (κ : Ko) (a0 : Nat) (st : AS) : Option Int32 := L_Si_seenRidges_4 κ st  FU a0 (0 : Int32) (0 : Int32)
theorem l_Si_seenRidges_4 {κ : Ko} {F : Int32 → AS → Prop} {v : Int32} {st : AS} (k : F v st) : ∀ (d : Nat) (a0 : Nat) (x1 : Int32) (x2 : Int32), ly κ a0 = (9, 4) → L_Si_seenRidges_4 κ st  d a0 x1 x2 = some v → V κ M_Si_seenRidges (RI F) 4 [some (.ref a0), some (.int x1), some (.int x2)] [] st := by
  intro d
  induction d with
  | zero =>
    intro a0 x1 x2 l_a0 h
    exact nn_some h
  | succ d ih =>
    intro a0 x1 x2 l_a0 h
    rw [L_Si_seenRidges_4] at h
    refine b_Si_seenRidges_4 (l_a0 := l_a0) (k1 := fun e1 => ?_) (k2 := fun e1 => ?_)
    · replace h := if_t e1 h
      exact b_Si_seenRidges_34  (k1 := lfIP h k)
    · replace h := if_f e1 h
      refine b_Si_seenRidges_12 (l_a0 := l_a0) (k1 := t_Si_isSeen l_a0 rfl ?_)
      have K3 : V κ M_Si_seenRidges (RI F) 4 [some (.ref a0), some (.int (if (f_Si_isSeen κ a0 x2 st) = 0 then x1 + 0 else x1 + 1 : Int32)), some (.int (x2 + 1))] [] st := by
        exact ih _ _ _ l_a0 h
      refine b_Si_seenRidges_18  (k1 := fun e4 => ?_) (k2 := fun e4 => ?_)
      · refine b_Si_seenRidges_25  (k1 := ?_)
        exact (ite_t (P := fun z => V κ M_Si_seenRidges (RI F) 4 [some (.ref a0), some (.int z), some (.int (x2 + 1))] [] st) e4 K3)
      · refine b_Si_seenRidges_21  (k1 := ?_)
        exact (ite_f (P := fun z => V κ M_Si_seenRidges (RI F) 4 [some (.ref a0), some (.int z), some (.int (x2 + 1))] [] st) e4 K3)
theorem t_Si_seenRidges {κ : Ko} {F : Int32 → AS → Prop} {a0 : Nat} {st : AS} {v : Int32} (l_a0 : ly κ a0 = (9, 4)) (h : f_Si_seenRidges κ a0 st = some v) (k : F v st) : C κ M_Si_seenRidges [.ref a0] st (RI F) := by
  unfold f_Si_seenRidges at h
  refine e_Si_seenRidges ?_
  refine b_Si_seenRidges_0  (k1 := ?_)
  refine l_Si_seenRidges_4 k FU _ _ _ l_a0 h
noncomputable def L_Si_seenLength_4 (κ : Ko) (st : AS) : Nat → Nat → Int32 → Int32 → Option Int32
  | 0, _, _, _ => none
  | d + 1, a0, x1, x2 => if (gi st a0 3) ≤ x2 then some x1 else if (f_Si_isSeen κ a0 x2 st) = 0 then L_Si_seenLength_4 κ st  d a0 (x1 + 0) (x2 + 1) else bnd (gr st a0 2) (fun c2 => grd (ly κ c2 = (8, 14)) (bnd (f_Sh_lengthOf κ c2 x2 st) (fun v4 => L_Si_seenLength_4 κ st  d a0 (x1 + v4) (x2 + 1))))
noncomputable def f_Si_seenLength (κ : Ko) (a0 : Nat) (st : AS) : Option Int32 := L_Si_seenLength_4 κ st  FU a0 (0 : Int32) (0 : Int32)
theorem l_Si_seenLength_4 {κ : Ko} {F : Int32 → AS → Prop} {v : Int32} {st : AS} (k : F v st) : ∀ (d : Nat) (a0 : Nat) (x1 : Int32) (x2 : Int32), ly κ a0 = (9, 4) → L_Si_seenLength_4 κ st  d a0 x1 x2 = some v → V κ M_Si_seenLength (RI F) 4 [some (.ref a0), some (.int x1), some (.int x2)] [] st := by
  intro d
  induction d with
  | zero =>
    intro a0 x1 x2 l_a0 h
    exact nn_some h
  | succ d ih =>
    intro a0 x1 x2 l_a0 h
    rw [L_Si_seenLength_4] at h
    refine b_Si_seenLength_4 (l_a0 := l_a0) (k1 := fun e5 => ?_) (k2 := fun e5 => ?_)
    · replace h := if_t e5 h
      exact b_Si_seenLength_41  (k1 := lfIP h k)
    · replace h := if_f e5 h
      refine b_Si_seenLength_12 (l_a0 := l_a0) (k1 := t_Si_isSeen l_a0 rfl ?_)
      refine b_Si_seenLength_18  (k1 := fun e6 => ?_) (k2 := fun e6 => ?_)
      · replace h := if_t e6 h
        refine b_Si_seenLength_32  (k1 := ?_)
        exact ih _ _ _ l_a0 h
      · replace h := if_f e6 h
        obtain ⟨c2, h1, h⟩ := bnd_some h
        obtain ⟨l3, h⟩ := grd_some h
        obtain ⟨v4, h7, h⟩ := bnd_some h
        refine b_Si_seenLength_21 (l_a0 := l_a0) (g1 := h1) (l_r3 := l3) (k2 := t_Sh_lengthOf l3 h7 ?_)
        refine b_Si_seenLength_29  (k1 := ?_)
        exact ih _ _ _ l_a0 h
theorem t_Si_seenLength {κ : Ko} {F : Int32 → AS → Prop} {a0 : Nat} {st : AS} {v : Int32} (l_a0 : ly κ a0 = (9, 4)) (h : f_Si_seenLength κ a0 st = some v) (k : F v st) : C κ M_Si_seenLength [.ref a0] st (RI F) := by
  unfold f_Si_seenLength at h
  refine e_Si_seenLength ?_
  refine b_Si_seenLength_0  (k1 := ?_)
  refine l_Si_seenLength_4 k FU _ _ _ l_a0 h
noncomputable def f_Sh_goesThroughEnd (κ : Ko) (a0 : Nat) (x1 : Int32) (x2 : Int32) (x3 : Int32) (st : AS) : Option Int32 := bnd (f_Sh_ridgePart κ a0 x2 (1 : Int32) st) (fun v1 => bnd (f_Sh_ridgePart κ a0 x1 (0 : Int32) st) (fun v2 => bnd (f_Sh_ridgePart κ a0 x2 (0 : Int32) st) (fun v3 => jn (some (0 : Int32)) fun j8 => if v2 = v3 then j8 else bnd (f_Sh_ridgePart κ a0 x1 (1 : Int32) st) (fun v4 => bnd (f_Sh_ridgePart κ a0 x2 x3 st) (fun v5 => if v4 = v5 then bnd (f_Sh_ridgePart κ a0 x1 (2 : Int32) st) (fun v6 => if v1 < v6 then j8 else bnd (f_Sh_ridgePart κ a0 x1 (3 : Int32) st) (fun v7 => if v7 < v1 then j8 else some (1 : Int32))) else j8)))))
theorem t_Sh_goesThroughEnd {κ : Ko} {F : Int32 → AS → Prop} {a0 : Nat} {x1 : Int32} {x2 : Int32} {x3 : Int32} {st : AS} {v : Int32} (l_a0 : ly κ a0 = (8, 14)) (h : f_Sh_goesThroughEnd κ a0 x1 x2 x3 st = some v) (k : F v st) : C κ M_Sh_goesThroughEnd [.ref a0, .int x1, .int x2, .int x3] st (RI F) := by
  unfold f_Sh_goesThroughEnd at h
  refine e_Sh_goesThroughEnd ?_
  obtain ⟨v1, h9, h⟩ := bnd_some h
  refine b_Sh_goesThroughEnd_0 (l_a0 := l_a0) (k1 := t_Sh_ridgePart l_a0 h9 ?_)
  obtain ⟨v2, h10, h⟩ := bnd_some h
  refine b_Sh_goesThroughEnd_6 (l_a0 := l_a0) (k1 := t_Sh_ridgePart l_a0 h10 ?_)
  obtain ⟨v3, h11, h⟩ := bnd_some h
  refine b_Sh_goesThroughEnd_14 (l_a0 := l_a0) (k1 := t_Sh_ridgePart l_a0 h11 ?_)
  obtain ⟨j8, hdj8, h⟩ := jn_some h
  have hj8 : j8 = some v → V κ M_Sh_goesThroughEnd (RI F) 64 [none, none, none, none, none] [] st := by
    intro h
    rw [hdj8] at h
    exact b_Sh_goesThroughEnd_64  (k1 := lfIP h k)
  clear hdj8
  refine b_Sh_goesThroughEnd_20  (k1 := fun e12 => ?_) (k2 := fun e12 => ?_)
  · replace h := if_t e12 h
    exact hj8  h
  · replace h := if_f e12 h
    obtain ⟨v4, h13, h⟩ := bnd_some h
    refine b_Sh_goesThroughEnd_23 (l_a0 := l_a0) (k1 := t_Sh_ridgePart l_a0 h13 ?_)
    obtain ⟨v5, h14, h⟩ := bnd_some h
    refine b_Sh_goesThroughEnd_29 (l_a0 := l_a0) (k1 := t_Sh_ridgePart l_a0 h14 ?_)
    refine b_Sh_goesThroughEnd_35  (k1 := fun e15 => ?_) (k2 := fun e15 => ?_)
    · replace h := if_f e15 h
      exact hj8  h
    · replace h := if_t e15 h
      obtain ⟨v6, h16, h⟩ := bnd_some h
      refine b_Sh_goesThroughEnd_38 (l_a0 := l_a0) (k1 := t_Sh_ridgePart l_a0 h16 ?_)
      refine b_Sh_goesThroughEnd_44  (k1 := fun e17 => ?_) (k2 := fun e17 => ?_)
      · replace h := if_t e17 h
        exact hj8  h
      · replace h := if_f e17 h
        obtain ⟨v7, h18, h⟩ := bnd_some h
        refine b_Sh_goesThroughEnd_49 (l_a0 := l_a0) (k1 := t_Sh_ridgePart l_a0 h18 ?_)
        refine b_Sh_goesThroughEnd_57  (k1 := fun e19 => ?_) (k2 := fun e19 => ?_)
        · replace h := if_t e19 h
          exact hj8  h
        · replace h := if_f e19 h
          exact b_Sh_goesThroughEnd_60  (k1 := lfIP h k)
noncomputable def L_Si_isLoose_24 (κ : Ko) (st : AS) : Nat → Nat → Int32 → Int32 → Int32 → Option Int32
  | 0, _, _, _, _ => none
  | d + 1, a0, x1, x2, x3 => if (gi st a0 3) ≤ x3 then some (1 : Int32) else jn (L_Si_isLoose_24 κ st  d a0 x1 x2 (x3 + 1)) fun j9 => if (f_Si_isSeen κ a0 x3 st) = 0 then j9 else bnd (gr st a0 2) (fun c6 => grd (ly κ c6 = (8, 14)) (bnd (f_Sh_goesThroughEnd κ c6 x3 x1 x2 st) (fun v8 => if v8 = 0 then j9 else some (0 : Int32))))
noncomputable def f_Si_isLoose (κ : Ko) (a0 : Nat) (x1 : Int32) (x2 : Int32) (st : AS) : Option Int32 := jn (some (0 : Int32)) fun j14 => if (f_Si_isSeen κ a0 x1 st) = 0 then j14 else bnd (gr st a0 2) (fun c2 => grd (ly κ c2 = (8, 14)) (bnd (f_Sh_endsAtEdge κ c2 x1 x2 st) (fun v4 => if v4 = 0 then L_Si_isLoose_24 κ st  FU a0 x1 x2 (0 : Int32) else j14)))
theorem l_Si_isLoose_24 {κ : Ko} {F : Int32 → AS → Prop} {v : Int32} {st : AS} (k : F v st) : ∀ (d : Nat) (a0 : Nat) (x1 : Int32) (x2 : Int32) (x3 : Int32), ly κ a0 = (9, 4) → L_Si_isLoose_24 κ st  d a0 x1 x2 x3 = some v → V κ M_Si_isLoose (RI F) 24 [some (.ref a0), some (.int x1), some (.int x2), some (.int x3)] [] st := by
  intro d
  induction d with
  | zero =>
    intro a0 x1 x2 x3 l_a0 h
    exact nn_some h
  | succ d ih =>
    intro a0 x1 x2 x3 l_a0 h
    rw [L_Si_isLoose_24] at h
    refine b_Si_isLoose_24 (l_a0 := l_a0) (k1 := fun e10 => ?_) (k2 := fun e10 => ?_)
    · replace h := if_t e10 h
      exact b_Si_isLoose_61  (k1 := lfIP h k)
    · replace h := if_f e10 h
      refine b_Si_isLoose_32 (l_a0 := l_a0) (k1 := t_Si_isSeen l_a0 rfl ?_)
      obtain ⟨j9, hdj9, h⟩ := jn_some h
      have hj9 : j9 = some v → V κ M_Si_isLoose (RI F) 55 [some (.ref a0), some (.int x1), some (.int x2), some (.int x3)] [] st := by
        intro h
        rw [hdj9] at h
        refine b_Si_isLoose_55  (k1 := ?_)
        exact ih _ _ _ _ l_a0 h
      clear hdj9
      refine b_Si_isLoose_37  (k1 := fun e11 => ?_) (k2 := fun e11 => ?_)
      · replace h := if_t e11 h
        exact hj9  h
      · replace h := if_f e11 h
        obtain ⟨c6, h5, h⟩ := bnd_some h
        obtain ⟨l7, h⟩ := grd_some h
        obtain ⟨v8, h12, h⟩ := bnd_some h
        refine b_Si_isLoose_40 (l_a0 := l_a0) (g1 := h5) (l_r4 := l7) (k2 := t_Sh_goesThroughEnd l7 h12 ?_)
        refine b_Si_isLoose_50  (k1 := fun e13 => ?_) (k2 := fun e13 => ?_)
        · replace h := if_t e13 h
          exact hj9  h
        · replace h := if_f e13 h
          exact b_Si_isLoose_53  (k1 := lfIP h k)
theorem t_Si_isLoose {κ : Ko} {F : Int32 → AS → Prop} {a0 : Nat} {x1 : Int32} {x2 : Int32} {st : AS} {v : Int32} (l_a0 : ly κ a0 = (9, 4)) (h : f_Si_isLoose κ a0 x1 x2 st = some v) (k : F v st) : C κ M_Si_isLoose [.ref a0, .int x1, .int x2] st (RI F) := by
  unfold f_Si_isLoose at h
  refine e_Si_isLoose ?_
  refine b_Si_isLoose_0 (l_a0 := l_a0) (k1 := t_Si_isSeen l_a0 rfl ?_)
  obtain ⟨j14, hdj14, h⟩ := jn_some h
  have hj14 : j14 = some v → V κ M_Si_isLoose (RI F) 20 [none, none, none, none] [] st := by
    intro h
    rw [hdj14] at h
    exact b_Si_isLoose_20  (k1 := lfIP h k)
  clear hdj14
  refine b_Si_isLoose_5  (k1 := fun e15 => ?_) (k2 := fun e15 => ?_)
  · replace h := if_t e15 h
    exact hj14  h
  · replace h := if_f e15 h
    obtain ⟨c2, h1, h⟩ := bnd_some h
    obtain ⟨l3, h⟩ := grd_some h
    obtain ⟨v4, h16, h⟩ := bnd_some h
    refine b_Si_isLoose_8 (l_a0 := l_a0) (g1 := h1) (l_r3 := l3) (k2 := t_Sh_endsAtEdge l3 h16 ?_)
    refine b_Si_isLoose_17  (k1 := fun e17 => ?_) (k2 := fun e17 => ?_)
    · replace h := if_t e17 h
      refine b_Si_isLoose_22  (k1 := ?_)
      refine l_Si_isLoose_24 k FU _ _ _ _ l_a0 h
    · replace h := if_f e17 h
      exact hj14  h
noncomputable def L_Si_looseEnds_4 (κ : Ko) (st : AS) : Nat → Nat → Int32 → Int32 → Option Int32
  | 0, _, _, _ => none
  | d + 1, a0, x1, x2 => if (gi st a0 3) ≤ x2 then some x1 else bnd (f_Si_isLoose κ a0 x2 (2 : Int32) st) (fun v1 => bnd (f_Si_isLoose κ a0 x2 (3 : Int32) st) (fun v2 => L_Si_looseEnds_4 κ st  d a0 (if v2 = 0 then (x1 + (if v1 = 0 then (0 : Int32) else (1 : Int32) : Int32)) + 0 else (x1 + (if v1 = 0 then (0 : Int32) else (1 : Int32) : Int32)) + 1 : Int32) (x2 + 1)))
noncomputable def f_Si_looseEnds (κ : Ko) (a0 : Nat) (st : AS) : Option Int32 := L_Si_looseEnds_4 κ st  FU a0 (0 : Int32) (0 : Int32)
theorem l_Si_looseEnds_4 {κ : Ko} {F : Int32 → AS → Prop} {v : Int32} {st : AS} (k : F v st) : ∀ (d : Nat) (a0 : Nat) (x1 : Int32) (x2 : Int32), ly κ a0 = (9, 4) → L_Si_looseEnds_4 κ st  d a0 x1 x2 = some v → V κ M_Si_looseEnds (RI F) 4 [some (.ref a0), some (.int x1), some (.int x2)] [] st := by
  intro d
  induction d with
  | zero =>
    intro a0 x1 x2 l_a0 h
    exact nn_some h
  | succ d ih =>
    intro a0 x1 x2 l_a0 h
    rw [L_Si_looseEnds_4] at h
    refine b_Si_looseEnds_4 (l_a0 := l_a0) (k1 := fun e3 => ?_) (k2 := fun e3 => ?_)
    · replace h := if_t e3 h
      exact b_Si_looseEnds_52  (k1 := lfIP h k)
    · replace h := if_f e3 h
      obtain ⟨v1, h4, h⟩ := bnd_some h
      refine b_Si_looseEnds_12 (l_a0 := l_a0) (k1 := t_Si_isLoose l_a0 h4 ?_)
      have K6 : V κ M_Si_looseEnds (RI F) 27 [some (.ref a0), none, some (.int x2)] [.int (if v1 = 0 then (0 : Int32) else (1 : Int32) : Int32), .int x1] st := by
        obtain ⟨v2, h7, h⟩ := bnd_some h
        refine b_Si_looseEnds_27 (l_a0 := l_a0) (k1 := t_Si_isLoose l_a0 h7 ?_)
        have K9 : V κ M_Si_looseEnds (RI F) 4 [some (.ref a0), some (.int (if v2 = 0 then (x1 + (if v1 = 0 then (0 : Int32) else (1 : Int32) : Int32)) + 0 else (x1 + (if v1 = 0 then (0 : Int32) else (1 : Int32) : Int32)) + 1 : Int32)), some (.int (x2 + 1))] [] st := by
          exact ih _ _ _ l_a0 h
        refine b_Si_looseEnds_36  (k1 := fun e10 => ?_) (k2 := fun e10 => ?_)
        · refine b_Si_looseEnds_43  (k1 := ?_)
          exact (ite_t (P := fun z => V κ M_Si_looseEnds (RI F) 4 [some (.ref a0), some (.int z), some (.int (x2 + 1))] [] st) e10 K9)
        · refine b_Si_looseEnds_39  (k1 := ?_)
          exact (ite_f (P := fun z => V κ M_Si_looseEnds (RI F) 4 [some (.ref a0), some (.int z), some (.int (x2 + 1))] [] st) e10 K9)
      refine b_Si_looseEnds_19  (k1 := fun e11 => ?_) (k2 := fun e11 => ?_)
      · refine b_Si_looseEnds_26  (k1 := ?_)
        exact (ite_t (P := fun z => V κ M_Si_looseEnds (RI F) 27 [some (.ref a0), none, some (.int x2)] [.int z, .int x1] st) e11 K6)
      · refine b_Si_looseEnds_22  (k1 := ?_)
        exact (ite_f (P := fun z => V κ M_Si_looseEnds (RI F) 27 [some (.ref a0), none, some (.int x2)] [.int z, .int x1] st) e11 K6)
theorem t_Si_looseEnds {κ : Ko} {F : Int32 → AS → Prop} {a0 : Nat} {st : AS} {v : Int32} (l_a0 : ly κ a0 = (9, 4)) (h : f_Si_looseEnds κ a0 st = some v) (k : F v st) : C κ M_Si_looseEnds [.ref a0] st (RI F) := by
  unfold f_Si_looseEnds at h
  refine e_Si_looseEnds ?_
  refine b_Si_looseEnds_0  (k1 := ?_)
  refine l_Si_looseEnds_4 k FU _ _ _ l_a0 h
noncomputable def f_X_seen (κ : Ko) (a0 : Nat) (x1 : Int32) (x2 : Int32) (x3 : Int32) (st : AS) : Option (Int32 × AS) := bnd (f_X_ruleAt κ a0 x1 st) (fun v1 => nul v1 (bnd (f_Pl_get κ (a0 + 21) x2 st) (fun v11 => nul v11 (some (((-1) : Int32), st)) (fun c12 => grd (ly κ c12 = (8, 14)) (some (((-1) : Int32), st))))) (fun c2 => grd (ly κ c2 = (7, 5)) (bnd (f_Pl_get κ (a0 + 21) x2 st) (fun v4 => nul v4 (some (((-1) : Int32), st)) (fun c5 => grd (ly κ c5 = (8, 14)) (if (wi ((x3 : Int32).toInt64) (0 : Int64) (2 : Int64)) = 0 then some (((-1) : Int32), st) else bnd (f_Si_look κ (a0 + 59) c2 c5 st) (fun s7 => if x3 = 0 then bnd (f_Si_seenRidges κ (a0 + 59) s7) (fun v10 => some (v10, s7)) else if x3 = 1 then bnd (f_Si_seenLength κ (a0 + 59) s7) (fun v9 => some (v9, s7)) else bnd (f_Si_looseEnds κ (a0 + 59) s7) (fun v8 => some (v8, s7)))))))))
theorem t_X_seen {κ : Ko} {F : Int32 → AS → Prop} {a0 : Nat} {x1 : Int32} {x2 : Int32} {x3 : Int32} {st : AS} {v : Int32} {s' : AS} (l_a0 : ly κ a0 = (11, 15)) (h : f_X_seen κ a0 x1 x2 x3 st = some (v, s')) (k : F v s') : C κ M_X_seen [.ref a0, .int x1, .int x2, .int x3] st (RI F) := by
  unfold f_X_seen at h
  refine e_X_seen ?_
  obtain ⟨v1, h14, h⟩ := bnd_some h
  refine b_X_seen_0 (l_a0 := l_a0) (k1 := t_X_ruleAt l_a0 h14 ?_)
  rcases v1 with _ | c2
  · replace h := nul_n h
    obtain ⟨v11, h15, h⟩ := bnd_some h
    refine b_X_seen_5_RN (l_a0 := l_a0) (k1 := t_Pl_get (co11 21 5 3 rfl l_a0) h15 ?_)
    rcases v11 with _ | c12
    · replace h := nul_n h
      exact b_X_seen_15_RNN  (k1 := lfI h k)
    · obtain ⟨l13, h⟩ := grd_some (nul_s h)
      exact b_X_seen_15_RNR  (k1 := lfI h k)
  · obtain ⟨l3, h⟩ := grd_some (nul_s h)
    obtain ⟨v4, h16, h⟩ := bnd_some h
    refine b_X_seen_5_RR (l_a0 := l_a0) (k1 := t_Pl_get (co11 21 5 3 rfl l_a0) h16 ?_)
    rcases v4 with _ | c5
    · replace h := nul_n h
      exact b_X_seen_15_RRN  (k1 := lfI h k)
    · obtain ⟨l6, h⟩ := grd_some (nul_s h)
      refine b_X_seen_15_RRR  (k1 := t_X_within  rfl ?_)
      refine b_X_seen_36  (k1 := fun e17 => ?_) (k2 := fun e17 => ?_)
      · replace h := if_f e17 h
        obtain ⟨s7, h18, h⟩ := bnd_some h
        refine b_X_seen_41 (l_a0 := l_a0) (k1 := t_Si_look (co11 59 9 4 rfl l_a0) l3 l6 h18 ?_)
        refine b_X_seen_52  (k1 := fun e19 => ?_) (k2 := fun e19 => ?_)
        · replace h := if_f e19 h
          refine b_X_seen_64  (k1 := fun e20 => ?_) (k2 := fun e20 => ?_)
          · replace h := if_f e20 h
            obtain ⟨v8, h21, h⟩ := bnd_some h
            refine b_X_seen_79 (l_a0 := l_a0) (k1 := t_Si_looseEnds (co11 59 9 4 rfl l_a0) h21 ?_)
            exact b_X_seen_86  (k1 := lfI h k)
          · replace h := if_t e20 h
            obtain ⟨v9, h22, h⟩ := bnd_some h
            refine b_X_seen_69 (l_a0 := l_a0) (k1 := t_Si_seenLength (co11 59 9 4 rfl l_a0) h22 ?_)
            exact b_X_seen_76  (k1 := lfI h k)
        · replace h := if_t e19 h
          obtain ⟨v10, h23, h⟩ := bnd_some h
          refine b_X_seen_56 (l_a0 := l_a0) (k1 := t_Si_seenRidges (co11 59 9 4 rfl l_a0) h23 ?_)
          exact b_X_seen_63  (k1 := lfI h k)
      · replace h := if_t e17 h
        exact b_X_seen_39  (k1 := lfI h k)
noncomputable def L_Si_putsRight_12 (κ : Ko) (st : AS) : Nat → Nat → Int32 → Int32 → Option Int32
  | 0, _, _, _ => none
  | d + 1, a0, x1, x2 => if (gi st a0 3) ≤ x2 then some (0 : Int32) else bnd (gr st a0 2) (fun c2 => grd (ly κ c2 = (8, 14)) (bnd (f_Sh_goesThroughEnd κ c2 x1 x2 (2 : Int32) st) (fun v4 => jn (fun (v8 : Int32) => if v8 = 0 then bnd (gr st a0 2) (fun c10 => grd (ly κ c10 = (8, 14)) (bnd (f_Sh_goesThroughEnd κ c10 x1 x2 (3 : Int32) st) (fun v12 => jn (L_Si_putsRight_12 κ st  d a0 x1 (x2 + 1)) fun j14 => if v12 = 0 then j14 else bnd (f_Si_isLoose κ a0 x2 (3 : Int32) st) (fun v13 => if v13 = 0 then j14 else some (1 : Int32))))) else some (1 : Int32)) fun j7 => jn (j7 (0 : Int32)) fun j6 => if v4 = 0 then j6 else bnd (f_Si_isLoose κ a0 x2 (2 : Int32) st) (fun v5 => if v5 = 0 then j6 else j7 (1 : Int32)))))
noncomputable def f_Si_putsRight (κ : Ko) (a0 : Nat) (x1 : Int32) (st : AS) : Option Int32 := if (f_Si_isSeen κ a0 x1 st) = 0 then L_Si_putsRight_12 κ st  FU a0 x1 (0 : Int32) else some (0 : Int32)
theorem l_Si_putsRight_12 {κ : Ko} {F : Int32 → AS → Prop} {v : Int32} {st : AS} (k : F v st) : ∀ (d : Nat) (a0 : Nat) (x1 : Int32) (x2 : Int32), ly κ a0 = (9, 4) → L_Si_putsRight_12 κ st  d a0 x1 x2 = some v → V κ M_Si_putsRight (RI F) 12 [some (.ref a0), some (.int x1), some (.int x2), none] [] st := by
  intro d
  induction d with
  | zero =>
    intro a0 x1 x2 l_a0 h
    exact nn_some h
  | succ d ih =>
    intro a0 x1 x2 l_a0 h
    rw [L_Si_putsRight_12] at h
    refine b_Si_putsRight_12 (l_a0 := l_a0) (k1 := fun e15 => ?_) (k2 := fun e15 => ?_)
    · replace h := if_t e15 h
      exact b_Si_putsRight_82  (k1 := lfIP h k)
    · replace h := if_f e15 h
      obtain ⟨c2, h1, h⟩ := bnd_some h
      obtain ⟨l3, h⟩ := grd_some h
      obtain ⟨v4, h16, h⟩ := bnd_some h
      refine b_Si_putsRight_20 (l_a0 := l_a0) (g1 := h1) (l_r3 := l3) (k2 := t_Sh_goesThroughEnd l3 h16 ?_)
      obtain ⟨j7, hdj7, h⟩ := jn_some h
      have hj7 : ∀ (v8 : Int32), j7 v8 = some v → V κ M_Si_putsRight (RI F) 47 [some (.ref a0), some (.int x1), some (.int x2), none] [.int v8] st := by
        intro v8 h
        rw [hdj7] at h
        refine b_Si_putsRight_47  (k1 := fun e17 => ?_) (k2 := fun e17 => ?_)
        · replace h := if_f e17 h
          exact b_Si_putsRight_74  (k1 := lfIP h k)
        · replace h := if_t e17 h
          obtain ⟨c10, h9, h⟩ := bnd_some h
          obtain ⟨l11, h⟩ := grd_some h
          obtain ⟨v12, h18, h⟩ := bnd_some h
          refine b_Si_putsRight_52 (l_a0 := l_a0) (g1 := h9) (l_r3 := l11) (k2 := t_Sh_goesThroughEnd l11 h18 ?_)
          obtain ⟨j14, hdj14, h⟩ := jn_some h
          have hj14 : j14 = some v → V κ M_Si_putsRight (RI F) 76 [some (.ref a0), some (.int x1), some (.int x2), none] [] st := by
            intro h
            rw [hdj14] at h
            refine b_Si_putsRight_76  (k1 := ?_)
            exact ih _ _ _ l_a0 h
          clear hdj14
          refine b_Si_putsRight_62  (k1 := fun e19 => ?_) (k2 := fun e19 => ?_)
          · replace h := if_t e19 h
            exact hj14  h
          · replace h := if_f e19 h
            obtain ⟨v13, h20, h⟩ := bnd_some h
            refine b_Si_putsRight_65 (l_a0 := l_a0) (k1 := t_Si_isLoose l_a0 h20 ?_)
            refine b_Si_putsRight_71  (k1 := fun e21 => ?_) (k2 := fun e21 => ?_)
            · replace h := if_t e21 h
              exact hj14  h
            · replace h := if_f e21 h
              exact b_Si_putsRight_74  (k1 := lfIP h k)
      clear hdj7
      obtain ⟨j6, hdj6, h⟩ := jn_some h
      have hj6 : j6 = some v → V κ M_Si_putsRight (RI F) 46 [some (.ref a0), some (.int x1), some (.int x2), none] [] st := by
        intro h
        rw [hdj6] at h
        refine b_Si_putsRight_46  (k1 := ?_)
        exact hj7 _  h
      clear hdj6
      refine b_Si_putsRight_30  (k1 := fun e22 => ?_) (k2 := fun e22 => ?_)
      · replace h := if_t e22 h
        exact hj6  h
      · replace h := if_f e22 h
        obtain ⟨v5, h23, h⟩ := bnd_some h
        refine b_Si_putsRight_33 (l_a0 := l_a0) (k1 := t_Si_isLoose l_a0 h23 ?_)
        refine b_Si_putsRight_39  (k1 := fun e24 => ?_) (k2 := fun e24 => ?_)
        · replace h := if_t e24 h
          exact hj6  h
        · replace h := if_f e24 h
          refine b_Si_putsRight_42  (k1 := ?_)
          exact hj7 _  h
theorem t_Si_putsRight {κ : Ko} {F : Int32 → AS → Prop} {a0 : Nat} {x1 : Int32} {st : AS} {v : Int32} (l_a0 : ly κ a0 = (9, 4)) (h : f_Si_putsRight κ a0 x1 st = some v) (k : F v st) : C κ M_Si_putsRight [.ref a0, .int x1] st (RI F) := by
  unfold f_Si_putsRight at h
  refine e_Si_putsRight ?_
  refine b_Si_putsRight_0 (l_a0 := l_a0) (k1 := t_Si_isSeen l_a0 rfl ?_)
  refine b_Si_putsRight_5  (k1 := fun e25 => ?_) (k2 := fun e25 => ?_)
  · replace h := if_t e25 h
    refine b_Si_putsRight_10  (k1 := ?_)
    refine l_Si_putsRight_12 k FU _ _ _ l_a0 h
  · replace h := if_f e25 h
    exact b_Si_putsRight_8  (k1 := lfIP h k)
noncomputable def L_Si_rightRidges_4 (κ : Ko) (st : AS) : Nat → Nat → Int32 → Int32 → Option Int32
  | 0, _, _, _ => none
  | d + 1, a0, x1, x2 => if (gi st a0 3) ≤ x2 then some x1 else bnd (f_Si_putsRight κ a0 x2 st) (fun v1 => L_Si_rightRidges_4 κ st  d a0 (if v1 = 0 then x1 + 0 else x1 + 1 : Int32) (x2 + 1))
noncomputable def f_Si_rightRidges (κ : Ko) (a0 : Nat) (st : AS) : Option Int32 := L_Si_rightRidges_4 κ st  FU a0 (0 : Int32) (0 : Int32)
theorem l_Si_rightRidges_4 {κ : Ko} {F : Int32 → AS → Prop} {v : Int32} {st : AS} (k : F v st) : ∀ (d : Nat) (a0 : Nat) (x1 : Int32) (x2 : Int32), ly κ a0 = (9, 4) → L_Si_rightRidges_4 κ st  d a0 x1 x2 = some v → V κ M_Si_rightRidges (RI F) 4 [some (.ref a0), some (.int x1), some (.int x2)] [] st := by
  intro d
  induction d with
  | zero =>
    intro a0 x1 x2 l_a0 h
    exact nn_some h
  | succ d ih =>
    intro a0 x1 x2 l_a0 h
    rw [L_Si_rightRidges_4] at h
    refine b_Si_rightRidges_4 (l_a0 := l_a0) (k1 := fun e2 => ?_) (k2 := fun e2 => ?_)
    · replace h := if_t e2 h
      exact b_Si_rightRidges_34  (k1 := lfIP h k)
    · replace h := if_f e2 h
      obtain ⟨v1, h3, h⟩ := bnd_some h
      refine b_Si_rightRidges_12 (l_a0 := l_a0) (k1 := t_Si_putsRight l_a0 h3 ?_)
      have K5 : V κ M_Si_rightRidges (RI F) 4 [some (.ref a0), some (.int (if v1 = 0 then x1 + 0 else x1 + 1 : Int32)), some (.int (x2 + 1))] [] st := by
        exact ih _ _ _ l_a0 h
      refine b_Si_rightRidges_18  (k1 := fun e6 => ?_) (k2 := fun e6 => ?_)
      · refine b_Si_rightRidges_25  (k1 := ?_)
        exact (ite_t (P := fun z => V κ M_Si_rightRidges (RI F) 4 [some (.ref a0), some (.int z), some (.int (x2 + 1))] [] st) e6 K5)
      · refine b_Si_rightRidges_21  (k1 := ?_)
        exact (ite_f (P := fun z => V κ M_Si_rightRidges (RI F) 4 [some (.ref a0), some (.int z), some (.int (x2 + 1))] [] st) e6 K5)
theorem t_Si_rightRidges {κ : Ko} {F : Int32 → AS → Prop} {a0 : Nat} {st : AS} {v : Int32} (l_a0 : ly κ a0 = (9, 4)) (h : f_Si_rightRidges κ a0 st = some v) (k : F v st) : C κ M_Si_rightRidges [.ref a0] st (RI F) := by
  unfold f_Si_rightRidges at h
  refine e_Si_rightRidges ?_
  refine b_Si_rightRidges_0  (k1 := ?_)
  refine l_Si_rightRidges_4 k FU _ _ _ l_a0 h
noncomputable def L_Si_firstRight_2 (κ : Ko) (st : AS) : Nat → Nat → Int32 → Option Int32
  | 0, _, _ => none
  | d + 1, a0, x1 => if (gi st a0 3) ≤ x1 then some ((-2) : Int32) else bnd (f_Si_putsRight κ a0 x1 st) (fun v1 => if v1 = 0 then L_Si_firstRight_2 κ st  d a0 (x1 + 1) else some x1)
noncomputable def f_Si_firstRight (κ : Ko) (a0 : Nat) (st : AS) : Option Int32 := L_Si_firstRight_2 κ st  FU a0 (0 : Int32)
theorem l_Si_firstRight_2 {κ : Ko} {F : Int32 → AS → Prop} {v : Int32} {st : AS} (k : F v st) : ∀ (d : Nat) (a0 : Nat) (x1 : Int32), ly κ a0 = (9, 4) → L_Si_firstRight_2 κ st  d a0 x1 = some v → V κ M_Si_firstRight (RI F) 2 [some (.ref a0), some (.int x1)] [] st := by
  intro d
  induction d with
  | zero =>
    intro a0 x1 l_a0 h
    exact nn_some h
  | succ d ih =>
    intro a0 x1 l_a0 h
    rw [L_Si_firstRight_2] at h
    refine b_Si_firstRight_2 (l_a0 := l_a0) (k1 := fun e2 => ?_) (k2 := fun e2 => ?_)
    · replace h := if_t e2 h
      exact b_Si_firstRight_26  (k1 := lfIP h k)
    · replace h := if_f e2 h
      obtain ⟨v1, h3, h⟩ := bnd_some h
      refine b_Si_firstRight_10 (l_a0 := l_a0) (k1 := t_Si_putsRight l_a0 h3 ?_)
      refine b_Si_firstRight_15  (k1 := fun e4 => ?_) (k2 := fun e4 => ?_)
      · replace h := if_t e4 h
        refine b_Si_firstRight_20  (k1 := ?_)
        exact ih _ _ l_a0 h
      · replace h := if_f e4 h
        exact b_Si_firstRight_18  (k1 := lfIP h k)
theorem t_Si_firstRight {κ : Ko} {F : Int32 → AS → Prop} {a0 : Nat} {st : AS} {v : Int32} (l_a0 : ly κ a0 = (9, 4)) (h : f_Si_firstRight κ a0 st = some v) (k : F v st) : C κ M_Si_firstRight [.ref a0] st (RI F) := by
  unfold f_Si_firstRight at h
  refine e_Si_firstRight ?_
  refine b_Si_firstRight_0  (k1 := ?_)
  refine l_Si_firstRight_2 k FU _ _ l_a0 h
noncomputable def f_X_right (κ : Ko) (a0 : Nat) (x1 : Int32) (x2 : Int32) (x3 : Int32) (st : AS) : Option (Int32 × AS) := bnd (f_X_ruleAt κ a0 x1 st) (fun v1 => nul v1 (bnd (f_Pl_get κ (a0 + 21) x2 st) (fun v10 => nul v10 (some (((-1) : Int32), st)) (fun c11 => grd (ly κ c11 = (8, 14)) (some (((-1) : Int32), st))))) (fun c2 => grd (ly κ c2 = (7, 5)) (bnd (f_Pl_get κ (a0 + 21) x2 st) (fun v4 => nul v4 (some (((-1) : Int32), st)) (fun c5 => grd (ly κ c5 = (8, 14)) (if (wi ((x3 : Int32).toInt64) (0 : Int64) (1 : Int64)) = 0 then some (((-1) : Int32), st) else bnd (f_Si_look κ (a0 + 59) c2 c5 st) (fun s7 => if x3 = 0 then bnd (f_Si_rightRidges κ (a0 + 59) s7) (fun v9 => some (v9, s7)) else bnd (f_Si_firstRight κ (a0 + 59) s7) (fun v8 => some (v8, s7)))))))))
theorem t_X_right {κ : Ko} {F : Int32 → AS → Prop} {a0 : Nat} {x1 : Int32} {x2 : Int32} {x3 : Int32} {st : AS} {v : Int32} {s' : AS} (l_a0 : ly κ a0 = (11, 15)) (h : f_X_right κ a0 x1 x2 x3 st = some (v, s')) (k : F v s') : C κ M_X_right [.ref a0, .int x1, .int x2, .int x3] st (RI F) := by
  unfold f_X_right at h
  refine e_X_right ?_
  obtain ⟨v1, h13, h⟩ := bnd_some h
  refine b_X_right_0 (l_a0 := l_a0) (k1 := t_X_ruleAt l_a0 h13 ?_)
  rcases v1 with _ | c2
  · replace h := nul_n h
    obtain ⟨v10, h14, h⟩ := bnd_some h
    refine b_X_right_5_RN (l_a0 := l_a0) (k1 := t_Pl_get (co11 21 5 3 rfl l_a0) h14 ?_)
    rcases v10 with _ | c11
    · replace h := nul_n h
      exact b_X_right_15_RNN  (k1 := lfI h k)
    · obtain ⟨l12, h⟩ := grd_some (nul_s h)
      exact b_X_right_15_RNR  (k1 := lfI h k)
  · obtain ⟨l3, h⟩ := grd_some (nul_s h)
    obtain ⟨v4, h15, h⟩ := bnd_some h
    refine b_X_right_5_RR (l_a0 := l_a0) (k1 := t_Pl_get (co11 21 5 3 rfl l_a0) h15 ?_)
    rcases v4 with _ | c5
    · replace h := nul_n h
      exact b_X_right_15_RRN  (k1 := lfI h k)
    · obtain ⟨l6, h⟩ := grd_some (nul_s h)
      refine b_X_right_15_RRR  (k1 := t_X_within  rfl ?_)
      refine b_X_right_34  (k1 := fun e16 => ?_) (k2 := fun e16 => ?_)
      · replace h := if_f e16 h
        obtain ⟨s7, h17, h⟩ := bnd_some h
        refine b_X_right_39 (l_a0 := l_a0) (k1 := t_Si_look (co11 59 9 4 rfl l_a0) l3 l6 h17 ?_)
        refine b_X_right_50  (k1 := fun e18 => ?_) (k2 := fun e18 => ?_)
        · replace h := if_f e18 h
          obtain ⟨v8, h19, h⟩ := bnd_some h
          refine b_X_right_64 (l_a0 := l_a0) (k1 := t_Si_firstRight (co11 59 9 4 rfl l_a0) h19 ?_)
          exact b_X_right_71  (k1 := lfI h k)
        · replace h := if_t e18 h
          obtain ⟨v9, h20, h⟩ := bnd_some h
          refine b_X_right_54 (l_a0 := l_a0) (k1 := t_Si_rightRidges (co11 59 9 4 rfl l_a0) h20 ?_)
          exact b_X_right_61  (k1 := lfI h k)
      · replace h := if_t e16 h
        exact b_X_right_37  (k1 := lfI h k)
noncomputable def L_Sh_firstRoundNotBelow_2 (κ : Ko) (st : AS) : Nat → Nat → Int32 → Int32 → Option Int32
  | 0, _, _, _ => none
  | d + 1, a0, x1, x2 => if (gi st a0 10) < x2 then some ((-2) : Int32) else bnd (f_Sh_lengthOfRounds κ a0 (0 : Int32) x2 st) (fun v1 => if v1 < x1 then L_Sh_firstRoundNotBelow_2 κ st  d a0 x1 (x2 + 1) else some x2)
noncomputable def f_Sh_firstRoundNotBelow (κ : Ko) (a0 : Nat) (x1 : Int32) (st : AS) : Option Int32 := L_Sh_firstRoundNotBelow_2 κ st  FU a0 x1 (0 : Int32)
theorem l_Sh_firstRoundNotBelow_2 {κ : Ko} {F : Int32 → AS → Prop} {v : Int32} {st : AS} (k : F v st) : ∀ (d : Nat) (a0 : Nat) (x1 : Int32) (x2 : Int32), ly κ a0 = (8, 14) → L_Sh_firstRoundNotBelow_2 κ st  d a0 x1 x2 = some v → V κ M_Sh_firstRoundNotBelow (RI F) 2 [some (.ref a0), some (.int x1), some (.int x2)] [] st := by
  intro d
  induction d with
  | zero =>
    intro a0 x1 x2 l_a0 h
    exact nn_some h
  | succ d ih =>
    intro a0 x1 x2 l_a0 h
    rw [L_Sh_firstRoundNotBelow_2] at h
    refine b_Sh_firstRoundNotBelow_2 (l_a0 := l_a0) (k1 := fun e2 => ?_) (k2 := fun e2 => ?_)
    · replace h := if_t e2 h
      exact b_Sh_firstRoundNotBelow_28  (k1 := lfIP h k)
    · replace h := if_f e2 h
      obtain ⟨v1, h3, h⟩ := bnd_some h
      refine b_Sh_firstRoundNotBelow_10 (l_a0 := l_a0) (k1 := t_Sh_lengthOfRounds l_a0 h3 ?_)
      refine b_Sh_firstRoundNotBelow_16  (k1 := fun e4 => ?_) (k2 := fun e4 => ?_)
      · replace h := if_t e4 h
        refine b_Sh_firstRoundNotBelow_22  (k1 := ?_)
        exact ih _ _ _ l_a0 h
      · replace h := if_f e4 h
        exact b_Sh_firstRoundNotBelow_20  (k1 := lfIP h k)
theorem t_Sh_firstRoundNotBelow {κ : Ko} {F : Int32 → AS → Prop} {a0 : Nat} {x1 : Int32} {st : AS} {v : Int32} (l_a0 : ly κ a0 = (8, 14)) (h : f_Sh_firstRoundNotBelow κ a0 x1 st = some v) (k : F v st) : C κ M_Sh_firstRoundNotBelow [.ref a0, .int x1] st (RI F) := by
  unfold f_Sh_firstRoundNotBelow at h
  refine e_Sh_firstRoundNotBelow ?_
  refine b_Sh_firstRoundNotBelow_0  (k1 := ?_)
  refine l_Sh_firstRoundNotBelow_2 k FU _ _ _ l_a0 h
noncomputable def f_X_often (κ : Ko) (a0 : Nat) (x1 : Int32) (x2 : Int32) (x3 : Int32) (st : AS) : Option (Int32 × AS) := bnd (f_X_ruleAt κ a0 x1 st) (fun v1 => nul v1 (bnd (f_Pl_get κ (a0 + 21) x2 st) (fun v16 => nul v16 (bnd (f_Pl_get κ (a0 + 21) x3 st) (fun v22 => nul v22 (some (((-1) : Int32), st)) (fun c23 => grd (ly κ c23 = (8, 14)) (some (((-1) : Int32), st))))) (fun c17 => grd (ly κ c17 = (8, 14)) (bnd (f_Pl_get κ (a0 + 21) x3 st) (fun v19 => nul v19 (some (((-1) : Int32), st)) (fun c20 => grd (ly κ c20 = (8, 14)) (some (((-1) : Int32), st)))))))) (fun c2 => grd (ly κ c2 = (7, 5)) (bnd (f_Pl_get κ (a0 + 21) x2 st) (fun v4 => nul v4 (bnd (f_Pl_get κ (a0 + 21) x3 st) (fun v13 => nul v13 (some (((-1) : Int32), st)) (fun c14 => grd (ly κ c14 = (8, 14)) (some (((-1) : Int32), st))))) (fun c5 => grd (ly κ c5 = (8, 14)) (bnd (f_Pl_get κ (a0 + 21) x3 st) (fun v7 => nul v7 (some (((-1) : Int32), st)) (fun c8 => grd (ly κ c8 = (8, 14)) (bnd (f_Si_look κ (a0 + 59) c2 c5 st) (fun s10 => bnd (f_Si_seenLength κ (a0 + 59) s10) (fun v11 => bnd (f_Sh_firstRoundNotBelow κ c8 v11 s10) (fun v12 => some (v12, s10)))))))))))))
theorem t_X_often {κ : Ko} {F : Int32 → AS → Prop} {a0 : Nat} {x1 : Int32} {x2 : Int32} {x3 : Int32} {st : AS} {v : Int32} {s' : AS} (l_a0 : ly κ a0 = (11, 15)) (h : f_X_often κ a0 x1 x2 x3 st = some (v, s')) (k : F v s') : C κ M_X_often [.ref a0, .int x1, .int x2, .int x3] st (RI F) := by
  unfold f_X_often at h
  refine e_X_often ?_
  obtain ⟨v1, h25, h⟩ := bnd_some h
  refine b_X_often_0 (l_a0 := l_a0) (k1 := t_X_ruleAt l_a0 h25 ?_)
  rcases v1 with _ | c2
  · replace h := nul_n h
    obtain ⟨v16, h26, h⟩ := bnd_some h
    refine b_X_often_5_RN (l_a0 := l_a0) (k1 := t_Pl_get (co11 21 5 3 rfl l_a0) h26 ?_)
    rcases v16 with _ | c17
    · replace h := nul_n h
      obtain ⟨v22, h27, h⟩ := bnd_some h
      refine b_X_often_15_RNN (l_a0 := l_a0) (k1 := t_Pl_get (co11 21 5 3 rfl l_a0) h27 ?_)
      rcases v22 with _ | c23
      · replace h := nul_n h
        exact b_X_often_25_RNNN  (k1 := lfI h k)
      · obtain ⟨l24, h⟩ := grd_some (nul_s h)
        exact b_X_often_25_RNNR  (k1 := lfI h k)
    · obtain ⟨l18, h⟩ := grd_some (nul_s h)
      obtain ⟨v19, h28, h⟩ := bnd_some h
      refine b_X_often_15_RNR (l_a0 := l_a0) (k1 := t_Pl_get (co11 21 5 3 rfl l_a0) h28 ?_)
      rcases v19 with _ | c20
      · replace h := nul_n h
        exact b_X_often_25_RNRN  (k1 := lfI h k)
      · obtain ⟨l21, h⟩ := grd_some (nul_s h)
        exact b_X_often_25_RNRR  (k1 := lfI h k)
  · obtain ⟨l3, h⟩ := grd_some (nul_s h)
    obtain ⟨v4, h29, h⟩ := bnd_some h
    refine b_X_often_5_RR (l_a0 := l_a0) (k1 := t_Pl_get (co11 21 5 3 rfl l_a0) h29 ?_)
    rcases v4 with _ | c5
    · replace h := nul_n h
      obtain ⟨v13, h30, h⟩ := bnd_some h
      refine b_X_often_15_RRN (l_a0 := l_a0) (k1 := t_Pl_get (co11 21 5 3 rfl l_a0) h30 ?_)
      rcases v13 with _ | c14
      · replace h := nul_n h
        exact b_X_often_25_RRNN  (k1 := lfI h k)
      · obtain ⟨l15, h⟩ := grd_some (nul_s h)
        exact b_X_often_25_RRNR  (k1 := lfI h k)
    · obtain ⟨l6, h⟩ := grd_some (nul_s h)
      obtain ⟨v7, h31, h⟩ := bnd_some h
      refine b_X_often_15_RRR (l_a0 := l_a0) (k1 := t_Pl_get (co11 21 5 3 rfl l_a0) h31 ?_)
      rcases v7 with _ | c8
      · replace h := nul_n h
        exact b_X_often_25_RRRN  (k1 := lfI h k)
      · obtain ⟨l9, h⟩ := grd_some (nul_s h)
        obtain ⟨s10, h32, h⟩ := bnd_some h
        refine b_X_often_25_RRRR (l_a0 := l_a0) (k1 := t_Si_look (co11 59 9 4 rfl l_a0) l3 l6 h32 ?_)
        obtain ⟨v11, h33, h⟩ := bnd_some h
        refine b_X_often_55 (l_a0 := l_a0) (k1 := t_Si_seenLength (co11 59 9 4 rfl l_a0) h33 ?_)
        obtain ⟨v12, h34, h⟩ := bnd_some h
        refine b_X_often_64 (l_c0 := l9) (k1 := t_Sh_firstRoundNotBelow l9 h34 ?_)
        exact b_X_often_67  (k1 := lfI h k)
noncomputable def f_Cn_pointOf (κ : Ko) (a0 : Nat) (a1 : Nat) (x2 : Int32) (x3 : Int32) (st : AS) : Option Int32 := bnd (f_Sh_ridgePart κ a1 x2 (1 : Int32) st) (fun v1 => bnd (f_Sh_ridgePart κ a1 x2 (0 : Int32) st) (fun v2 => some (if v2 = 0 then (x3 * 201) + v1 else (v1 * 201) + x3 : Int32)))
theorem t_Cn_pointOf {κ : Ko} {F : Int32 → AS → Prop} {a0 : Nat} {a1 : Nat} {x2 : Int32} {x3 : Int32} {st : AS} {v : Int32} (l_a0 : ly κ a0 = (1, 4)) (l_a1 : ly κ a1 = (8, 14)) (h : f_Cn_pointOf κ a0 a1 x2 x3 st = some v) (k : F v st) : C κ M_Cn_pointOf [.ref a0, .ref a1, .int x2, .int x3] st (RI F) := by
  unfold f_Cn_pointOf at h
  refine e_Cn_pointOf ?_
  obtain ⟨v1, h3, h⟩ := bnd_some h
  refine b_Cn_pointOf_0 (l_a1 := l_a1) (k1 := t_Sh_ridgePart l_a1 h3 ?_)
  obtain ⟨v2, h4, h⟩ := bnd_some h
  refine b_Cn_pointOf_6 (l_a1 := l_a1) (k1 := t_Sh_ridgePart l_a1 h4 ?_)
  have K6 : (RI F) (some (.int (if v2 = 0 then (x3 * 201) + v1 else (v1 * 201) + x3 : Int32))) st := lfIP h k
  refine b_Cn_pointOf_14  (k1 := fun e7 => ?_) (k2 := fun e7 => ?_)
  · exact b_Cn_pointOf_28  (k1 := (ite_f (P := fun z => (RI F) (some (.int z)) st) e7 K6))
  · exact b_Cn_pointOf_17  (k1 := (ite_t (P := fun z => (RI F) (some (.int z)) st) e7 K6))
noncomputable def L_Cn_drawRidge_35 (κ : Ko) : Nat → Nat → Nat → Int32 → Int32 → Int32 → Int32 → Int32 → AS → Option AS
  | 0, _, _, _, _, _, _, _, _ => none
  | d + 1, a0, a1, x2, x3, x4, x5, x6, st => if x5 < x6 then some st else jn (fun (v6 : Int32) => bnd (f_Cn_pointOf κ a0 a1 x2 x6 st) (fun v7 => L_Cn_drawRidge_35 κ  d a0 a1 x2 x3 x4 x5 (x6 + 1) (gput st (a0 + 1) 40401 v7 ((gat (gi st (a0 + 1)) 40401 v7) ||| ((v6 ||| (if x6 = x4 then (0 : Int32) else (if x3 = 0 then (4 : Int32) else (1 : Int32) : Int32) : Int32)) ||| (if x6 = x5 then (0 : Int32) else (if x3 = 0 then (8 : Int32) else (2 : Int32) : Int32) : Int32)))))) fun j5 => jn (j5 (16 : Int32)) fun j4 => if x6 = x4 then j4 else if x6 = x5 then j4 else j5 (0 : Int32)
noncomputable def f_Cn_drawRidge (κ : Ko) (a0 : Nat) (a1 : Nat) (x2 : Int32) (st : AS) : Option AS := bnd (f_Sh_ridgePart κ a1 x2 (0 : Int32) st) (fun v1 => bnd (f_Sh_ridgePart κ a1 x2 (2 : Int32) st) (fun v2 => bnd (f_Sh_ridgePart κ a1 x2 (3 : Int32) st) (fun v3 => L_Cn_drawRidge_35 κ  FU a0 a1 x2 (if v1 = 0 then (1 : Int32) else (0 : Int32) : Int32) v2 v3 v2 st)))
theorem l_Cn_drawRidge_35 {κ : Ko} {F : AS → Prop} {s' : AS} (k : F s') : ∀ (d : Nat) (a0 : Nat) (a1 : Nat) (x2 : Int32) (x3 : Int32) (x4 : Int32) (x5 : Int32) (x6 : Int32) (st : AS), ly κ a0 = (1, 4) → ly κ a1 = (8, 14) → L_Cn_drawRidge_35 κ  d a0 a1 x2 x3 x4 x5 x6 st = some s' → V κ M_Cn_drawRidge (RV F) 35 [some (.ref a0), some (.ref a1), some (.int x2), some (.int x3), some (.int x4), some (.int x5), some (.int x6), none, none] [] st := by
  intro d
  induction d with
  | zero =>
    intro a0 a1 x2 x3 x4 x5 x6 st l_a0 l_a1 h
    exact nn_some h
  | succ d ih =>
    intro a0 a1 x2 x3 x4 x5 x6 st l_a0 l_a1 h
    rw [L_Cn_drawRidge_35] at h
    refine b_Cn_drawRidge_35  (k1 := fun e8 => ?_) (k2 := fun e8 => ?_)
    · replace h := if_t e8 h
      exact b_Cn_drawRidge_152  (k1 := lfV h k)
    · replace h := if_f e8 h
      obtain ⟨j5, hdj5, h⟩ := jn_some h
      have hj5 : ∀ (v6 : Int32), j5 v6 = some s' → V κ M_Cn_drawRidge (RV F) 62 [some (.ref a0), some (.ref a1), some (.int x2), some (.int x3), some (.int x4), some (.int x5), some (.int x6), none, none] [.int v6] st := by
        intro v6 h
        rw [hdj5] at h
        have K10 : V κ M_Cn_drawRidge (RV F) 86 [some (.ref a0), some (.ref a1), some (.int x2), some (.int x3), some (.int x4), some (.int x5), some (.int x6), none, none] [.int (if x6 = x4 then (0 : Int32) else (if x3 = 0 then (4 : Int32) else (1 : Int32) : Int32) : Int32), .int v6] st := by
          have K12 : V κ M_Cn_drawRidge (RV F) 112 [some (.ref a0), some (.ref a1), some (.int x2), some (.int x3), some (.int x4), some (.int x5), some (.int x6), none, none] [.int (if x6 = x5 then (0 : Int32) else (if x3 = 0 then (8 : Int32) else (2 : Int32) : Int32) : Int32), .int (v6 ||| (if x6 = x4 then (0 : Int32) else (if x3 = 0 then (4 : Int32) else (1 : Int32) : Int32) : Int32))] st := by
            obtain ⟨v7, h13, h⟩ := bnd_some h
            refine b_Cn_drawRidge_112 (l_a0 := l_a0) (k1 := t_Cn_pointOf l_a0 l_a1 h13 ?_)
            refine b_Cn_drawRidge_123 (l_a0 := l_a0) (k1 := t_X_at (co1 1 50 40401 rfl l_a0) rfl ?_)
            refine b_Cn_drawRidge_140  (k1 := t_X_put (co1 1 50 40401 rfl l_a0) rfl ?_)
            refine b_Cn_drawRidge_146  (k1 := ?_)
            exact ih _ _ _ _ _ _ _ _ l_a0 l_a1 h
          refine b_Cn_drawRidge_86  (k1 := fun e14 => ?_) (k2 := fun e14 => ?_)
          · refine b_Cn_drawRidge_102  (k1 := fun e15 => ?_) (k2 := fun e15 => ?_)
            · refine b_Cn_drawRidge_110  (k1 := ?_)
              exact (ite_t (P := fun z => V κ M_Cn_drawRidge (RV F) 112 [some (.ref a0), some (.ref a1), some (.int x2), some (.int x3), some (.int x4), some (.int x5), some (.int x6), none, none] [.int z, .int (v6 ||| (if x6 = x4 then (0 : Int32) else (if x3 = 0 then (4 : Int32) else (1 : Int32) : Int32) : Int32))] st) e15 (ite_f (P := fun z => V κ M_Cn_drawRidge (RV F) 112 [some (.ref a0), some (.ref a1), some (.int x2), some (.int x3), some (.int x4), some (.int x5), some (.int x6), none, none] [.int z, .int (v6 ||| (if x6 = x4 then (0 : Int32) else (if x3 = 0 then (4 : Int32) else (1 : Int32) : Int32) : Int32))] st) e14 K12))
            · refine b_Cn_drawRidge_106  (k1 := ?_)
              exact (ite_f (P := fun z => V κ M_Cn_drawRidge (RV F) 112 [some (.ref a0), some (.ref a1), some (.int x2), some (.int x3), some (.int x4), some (.int x5), some (.int x6), none, none] [.int z, .int (v6 ||| (if x6 = x4 then (0 : Int32) else (if x3 = 0 then (4 : Int32) else (1 : Int32) : Int32) : Int32))] st) e15 (ite_f (P := fun z => V κ M_Cn_drawRidge (RV F) 112 [some (.ref a0), some (.ref a1), some (.int x2), some (.int x3), some (.int x4), some (.int x5), some (.int x6), none, none] [.int z, .int (v6 ||| (if x6 = x4 then (0 : Int32) else (if x3 = 0 then (4 : Int32) else (1 : Int32) : Int32) : Int32))] st) e14 K12))
          · refine b_Cn_drawRidge_98  (k1 := ?_)
            exact (ite_t (P := fun z => V κ M_Cn_drawRidge (RV F) 112 [some (.ref a0), some (.ref a1), some (.int x2), some (.int x3), some (.int x4), some (.int x5), some (.int x6), none, none] [.int z, .int (v6 ||| (if x6 = x4 then (0 : Int32) else (if x3 = 0 then (4 : Int32) else (1 : Int32) : Int32) : Int32))] st) e14 K12)
        refine b_Cn_drawRidge_62  (k1 := fun e16 => ?_) (k2 := fun e16 => ?_)
        · refine b_Cn_drawRidge_77  (k1 := fun e17 => ?_) (k2 := fun e17 => ?_)
          · refine b_Cn_drawRidge_85  (k1 := ?_)
            exact (ite_t (P := fun z => V κ M_Cn_drawRidge (RV F) 86 [some (.ref a0), some (.ref a1), some (.int x2), some (.int x3), some (.int x4), some (.int x5), some (.int x6), none, none] [.int z, .int v6] st) e17 (ite_f (P := fun z => V κ M_Cn_drawRidge (RV F) 86 [some (.ref a0), some (.ref a1), some (.int x2), some (.int x3), some (.int x4), some (.int x5), some (.int x6), none, none] [.int z, .int v6] st) e16 K10))
          · refine b_Cn_drawRidge_81  (k1 := ?_)
            exact (ite_f (P := fun z => V κ M_Cn_drawRidge (RV F) 86 [some (.ref a0), some (.ref a1), some (.int x2), some (.int x3), some (.int x4), some (.int x5), some (.int x6), none, none] [.int z, .int v6] st) e17 (ite_f (P := fun z => V κ M_Cn_drawRidge (RV F) 86 [some (.ref a0), some (.ref a1), some (.int x2), some (.int x3), some (.int x4), some (.int x5), some (.int x6), none, none] [.int z, .int v6] st) e16 K10))
        · refine b_Cn_drawRidge_73  (k1 := ?_)
          exact (ite_t (P := fun z => V κ M_Cn_drawRidge (RV F) 86 [some (.ref a0), some (.ref a1), some (.int x2), some (.int x3), some (.int x4), some (.int x5), some (.int x6), none, none] [.int z, .int v6] st) e16 K10)
      clear hdj5
      obtain ⟨j4, hdj4, h⟩ := jn_some h
      have hj4 : j4 = some s' → V κ M_Cn_drawRidge (RV F) 56 [some (.ref a0), some (.ref a1), some (.int x2), some (.int x3), some (.int x4), some (.int x5), some (.int x6), none, none] [] st := by
        intro h
        rw [hdj4] at h
        refine b_Cn_drawRidge_56  (k1 := ?_)
        exact hj5 _  h
      clear hdj4
      refine b_Cn_drawRidge_42  (k1 := fun e18 => ?_) (k2 := fun e18 => ?_)
      · replace h := if_t e18 h
        exact hj4  h
      · replace h := if_f e18 h
        refine b_Cn_drawRidge_49  (k1 := fun e19 => ?_) (k2 := fun e19 => ?_)
        · replace h := if_f e19 h
          refine b_Cn_drawRidge_61  (k1 := ?_)
          exact hj5 _  h
        · replace h := if_t e19 h
          exact hj4  h
theorem t_Cn_drawRidge {κ : Ko} {F : AS → Prop} {a0 : Nat} {a1 : Nat} {x2 : Int32} {st : AS} {s' : AS} (l_a0 : ly κ a0 = (1, 4)) (l_a1 : ly κ a1 = (8, 14)) (h : f_Cn_drawRidge κ a0 a1 x2 st = some s') (k : F s') : C κ M_Cn_drawRidge [.ref a0, .ref a1, .int x2] st (RV F) := by
  unfold f_Cn_drawRidge at h
  refine e_Cn_drawRidge ?_
  obtain ⟨v1, h20, h⟩ := bnd_some h
  refine b_Cn_drawRidge_0 (l_a1 := l_a1) (k1 := t_Sh_ridgePart l_a1 h20 ?_)
  have K22 : V κ M_Cn_drawRidge (RV F) 14 [some (.ref a0), some (.ref a1), some (.int x2), none, none, none, none, none, none] [.int (if v1 = 0 then (1 : Int32) else (0 : Int32) : Int32)] st := by
    obtain ⟨v2, h23, h⟩ := bnd_some h
    refine b_Cn_drawRidge_14 (l_a1 := l_a1) (k1 := t_Sh_ridgePart l_a1 h23 ?_)
    obtain ⟨v3, h24, h⟩ := bnd_some h
    refine b_Cn_drawRidge_21 (l_a1 := l_a1) (k1 := t_Sh_ridgePart l_a1 h24 ?_)
    refine b_Cn_drawRidge_29  (k1 := ?_)
    refine l_Cn_drawRidge_35 k FU _ _ _ _ _ _ _ _ l_a0 l_a1 h
  refine b_Cn_drawRidge_6  (k1 := fun e25 => ?_) (k2 := fun e25 => ?_)
  · refine b_Cn_drawRidge_13  (k1 := ?_)
    exact (ite_f (P := fun z => V κ M_Cn_drawRidge (RV F) 14 [some (.ref a0), some (.ref a1), some (.int x2), none, none, none, none, none, none] [.int z] st) e25 K22)
  · refine b_Cn_drawRidge_9  (k1 := ?_)
    exact (ite_t (P := fun z => V κ M_Cn_drawRidge (RV F) 14 [some (.ref a0), some (.ref a1), some (.int x2), none, none, none, none, none, none] [.int z] st) e25 K22)
noncomputable def f_Ji_bitCount (κ : Ko) (x0 : Int32) (st : AS) : Int32 := ((((((((x0 - ((((x0 : Int32).toUInt32 >>> ((1 : Int32).toUInt32 &&& Int32.toUInt32 31)).toInt32) &&& 1431655765)) &&& 858993459) + (((((x0 - ((((x0 : Int32).toUInt32 >>> ((1 : Int32).toUInt32 &&& Int32.toUInt32 31)).toInt32) &&& 1431655765)) : Int32).toUInt32 >>> ((2 : Int32).toUInt32 &&& Int32.toUInt32 31)).toInt32) &&& 858993459)) + ((((((x0 - ((((x0 : Int32).toUInt32 >>> ((1 : Int32).toUInt32 &&& Int32.toUInt32 31)).toInt32) &&& 1431655765)) &&& 858993459) + (((((x0 - ((((x0 : Int32).toUInt32 >>> ((1 : Int32).toUInt32 &&& Int32.toUInt32 31)).toInt32) &&& 1431655765)) : Int32).toUInt32 >>> ((2 : Int32).toUInt32 &&& Int32.toUInt32 31)).toInt32) &&& 858993459)) : Int32).toUInt32 >>> ((4 : Int32).toUInt32 &&& Int32.toUInt32 31)).toInt32)) &&& 252645135) + ((((((((x0 - ((((x0 : Int32).toUInt32 >>> ((1 : Int32).toUInt32 &&& Int32.toUInt32 31)).toInt32) &&& 1431655765)) &&& 858993459) + (((((x0 - ((((x0 : Int32).toUInt32 >>> ((1 : Int32).toUInt32 &&& Int32.toUInt32 31)).toInt32) &&& 1431655765)) : Int32).toUInt32 >>> ((2 : Int32).toUInt32 &&& Int32.toUInt32 31)).toInt32) &&& 858993459)) + ((((((x0 - ((((x0 : Int32).toUInt32 >>> ((1 : Int32).toUInt32 &&& Int32.toUInt32 31)).toInt32) &&& 1431655765)) &&& 858993459) + (((((x0 - ((((x0 : Int32).toUInt32 >>> ((1 : Int32).toUInt32 &&& Int32.toUInt32 31)).toInt32) &&& 1431655765)) : Int32).toUInt32 >>> ((2 : Int32).toUInt32 &&& Int32.toUInt32 31)).toInt32) &&& 858993459)) : Int32).toUInt32 >>> ((4 : Int32).toUInt32 &&& Int32.toUInt32 31)).toInt32)) &&& 252645135) : Int32).toUInt32 >>> ((8 : Int32).toUInt32 &&& Int32.toUInt32 31)).toInt32)) + (((((((((x0 - ((((x0 : Int32).toUInt32 >>> ((1 : Int32).toUInt32 &&& Int32.toUInt32 31)).toInt32) &&& 1431655765)) &&& 858993459) + (((((x0 - ((((x0 : Int32).toUInt32 >>> ((1 : Int32).toUInt32 &&& Int32.toUInt32 31)).toInt32) &&& 1431655765)) : Int32).toUInt32 >>> ((2 : Int32).toUInt32 &&& Int32.toUInt32 31)).toInt32) &&& 858993459)) + ((((((x0 - ((((x0 : Int32).toUInt32 >>> ((1 : Int32).toUInt32 &&& Int32.toUInt32 31)).toInt32) &&& 1431655765)) &&& 858993459) + (((((x0 - ((((x0 : Int32).toUInt32 >>> ((1 : Int32).toUInt32 &&& Int32.toUInt32 31)).toInt32) &&& 1431655765)) : Int32).toUInt32 >>> ((2 : Int32).toUInt32 &&& Int32.toUInt32 31)).toInt32) &&& 858993459)) : Int32).toUInt32 >>> ((4 : Int32).toUInt32 &&& Int32.toUInt32 31)).toInt32)) &&& 252645135) + ((((((((x0 - ((((x0 : Int32).toUInt32 >>> ((1 : Int32).toUInt32 &&& Int32.toUInt32 31)).toInt32) &&& 1431655765)) &&& 858993459) + (((((x0 - ((((x0 : Int32).toUInt32 >>> ((1 : Int32).toUInt32 &&& Int32.toUInt32 31)).toInt32) &&& 1431655765)) : Int32).toUInt32 >>> ((2 : Int32).toUInt32 &&& Int32.toUInt32 31)).toInt32) &&& 858993459)) + ((((((x0 - ((((x0 : Int32).toUInt32 >>> ((1 : Int32).toUInt32 &&& Int32.toUInt32 31)).toInt32) &&& 1431655765)) &&& 858993459) + (((((x0 - ((((x0 : Int32).toUInt32 >>> ((1 : Int32).toUInt32 &&& Int32.toUInt32 31)).toInt32) &&& 1431655765)) : Int32).toUInt32 >>> ((2 : Int32).toUInt32 &&& Int32.toUInt32 31)).toInt32) &&& 858993459)) : Int32).toUInt32 >>> ((4 : Int32).toUInt32 &&& Int32.toUInt32 31)).toInt32)) &&& 252645135) : Int32).toUInt32 >>> ((8 : Int32).toUInt32 &&& Int32.toUInt32 31)).toInt32)) : Int32).toUInt32 >>> ((16 : Int32).toUInt32 &&& Int32.toUInt32 31)).toInt32)) &&& 63)
theorem t_Ji_bitCount {κ : Ko} {F : Int32 → AS → Prop} {x0 : Int32} {st : AS} {v : Int32} (h : f_Ji_bitCount κ x0 st = v) (k : F v st) : C κ M_Ji_bitCount [.int x0] st (RI F) := by
  unfold f_Ji_bitCount at h
  refine e_Ji_bitCount ?_
  exact b_Ji_bitCount_0  (k1 := lfIPT h k)
noncomputable def f_Cn_countPoint (κ : Ko) (a0 : Nat) (x1 : Int32) (st : AS) : AS := jn (fun (v3 : Int32) => jn (jn ((ui (gput (ui st a0 2 ((gi st a0 2) + 1)) (a0 + 2) 5 (f_Ji_bitCount κ (x1 &&& 15) st) ((gat (gi (ui st a0 2 ((gi st a0 2) + 1)) (a0 + 2)) 5 (f_Ji_bitCount κ (x1 &&& 15) st)) + 1)) a0 3 0)) fun j6 => if (gi (gput (ui st a0 2 ((gi st a0 2) + 1)) (a0 + 2) 5 (f_Ji_bitCount κ (x1 &&& 15) st) ((gat (gi (ui st a0 2 ((gi st a0 2) + 1)) (a0 + 2)) 5 (f_Ji_bitCount κ (x1 &&& 15) st)) + 1)) a0 3) = 0 then j6 else jn ((ui (gput (ui st a0 2 ((gi st a0 2) + 1)) (a0 + 2) 5 (f_Ji_bitCount κ (x1 &&& 15) st) ((gat (gi (ui st a0 2 ((gi st a0 2) + 1)) (a0 + 2)) 5 (f_Ji_bitCount κ (x1 &&& 15) st)) + 1)) a0 3 1)) fun j5 => if (f_Ji_bitCount κ (x1 &&& 15) st) = 4 then j5 else if (x1 &&& 15) = 3 then j5 else if (x1 &&& 15) = 12 then j5 else j6) fun j4 => if (x1 &&& 16) = 0 then if v3 = 0 then st else j4 else j4) fun j2 => jn (j2 (0 : Int32)) fun j1 => if (x1 &&& 3) = 0 then j1 else if (x1 &&& 12) = 0 then j1 else j2 (1 : Int32)
theorem t_Cn_countPoint {κ : Ko} {F : AS → Prop} {a0 : Nat} {x1 : Int32} {st : AS} {s' : AS} (l_a0 : ly κ a0 = (1, 4)) (h : f_Cn_countPoint κ a0 x1 st = s') (k : F s') : C κ M_Cn_countPoint [.ref a0, .int x1] st (RV F) := by
  unfold f_Cn_countPoint at h
  refine e_Cn_countPoint ?_
  obtain ⟨j2, hdj2, h⟩ := jn_some h
  have hj2 : ∀ (v3 : Int32), j2 v3 = s' → V κ M_Cn_countPoint (RV F) 18 [some (.ref a0), some (.int x1), none, none, none] [.int v3] st := by
    intro v3 h
    rw [hdj2] at h
    obtain ⟨j4, hdj4, h⟩ := jn_some h
    have hj4 : j4 = s' → V κ M_Cn_countPoint (RV F) 31 [some (.ref a0), some (.int x1), none, none, none] [] st := by
      intro h
      rw [hdj4] at h
      refine b_Cn_countPoint_31  (k1 := t_Ji_bitCount  rfl ?_)
      refine b_Cn_countPoint_40 (l_a0 := l_a0) (k1 := t_X_at (co1 2 50 5 rfl l_a0) rfl ?_)
      refine b_Cn_countPoint_67  (k1 := t_X_put (co1 2 50 5 rfl l_a0) rfl ?_)
      obtain ⟨j6, hdj6, h⟩ := jn_some h
      have hj6 : j6 = s' → V κ M_Cn_countPoint (RV F) 101 [none, none, none, none, none] [.ref a0] (gput (ui st a0 2 ((gi st a0 2) + 1)) (a0 + 2) 5 (f_Ji_bitCount κ (x1 &&& 15) st) ((gat (gi (ui st a0 2 ((gi st a0 2) + 1)) (a0 + 2)) 5 (f_Ji_bitCount κ (x1 &&& 15) st)) + 1)) := by
        intro h
        rw [hdj6] at h
        exact b_Cn_countPoint_101 (l_c0 := l_a0) (k1 := lfVT h k)
      clear hdj6
      refine b_Cn_countPoint_72 (l_a0 := l_a0) (k1 := fun e7 => ?_) (k2 := fun e7 => ?_)
      · replace h := if_t e7 h
        exact hj6  h
      · replace h := if_f e7 h
        obtain ⟨j5, hdj5, h⟩ := jn_some h
        have hj5 : j5 = s' → V κ M_Cn_countPoint (RV F) 97 [none, none, none, none, none] [.ref a0] (gput (ui st a0 2 ((gi st a0 2) + 1)) (a0 + 2) 5 (f_Ji_bitCount κ (x1 &&& 15) st) ((gat (gi (ui st a0 2 ((gi st a0 2) + 1)) (a0 + 2)) 5 (f_Ji_bitCount κ (x1 &&& 15) st)) + 1)) := by
          intro h
          rw [hdj5] at h
          exact b_Cn_countPoint_97 (l_c0 := l_a0) (k1 := lfVT h k)
        clear hdj5
        refine b_Cn_countPoint_80  (k1 := fun e8 => ?_) (k2 := fun e8 => ?_)
        · replace h := if_t e8 h
          exact hj5  h
        · replace h := if_f e8 h
          refine b_Cn_countPoint_86  (k1 := fun e9 => ?_) (k2 := fun e9 => ?_)
          · replace h := if_t e9 h
            exact hj5  h
          · replace h := if_f e9 h
            refine b_Cn_countPoint_91  (k1 := fun e10 => ?_) (k2 := fun e10 => ?_)
            · replace h := if_f e10 h
              exact hj6  h
            · replace h := if_t e10 h
              exact hj5  h
    clear hdj4
    refine b_Cn_countPoint_18  (k1 := fun e11 => ?_) (k2 := fun e11 => ?_)
    · replace h := if_f e11 h
      exact hj4  h
    · replace h := if_t e11 h
      refine b_Cn_countPoint_26  (k1 := fun e12 => ?_) (k2 := fun e12 => ?_)
      · replace h := if_f e12 h
        exact hj4  h
      · replace h := if_t e12 h
        exact b_Cn_countPoint_30  (k1 := lfVT h k)
  clear hdj2
  obtain ⟨j1, hdj1, h⟩ := jn_some h
  have hj1 : j1 = s' → V κ M_Cn_countPoint (RV F) 17 [some (.ref a0), some (.int x1), none, none, none] [] st := by
    intro h
    rw [hdj1] at h
    refine b_Cn_countPoint_17  (k1 := ?_)
    exact hj2 _  h
  clear hdj1
  refine b_Cn_countPoint_0  (k1 := fun e13 => ?_) (k2 := fun e13 => ?_)
  · replace h := if_t e13 h
    exact hj1  h
  · replace h := if_f e13 h
    refine b_Cn_countPoint_6  (k1 := fun e14 => ?_) (k2 := fun e14 => ?_)
    · replace h := if_t e14 h
      exact hj1  h
    · replace h := if_f e14 h
      refine b_Cn_countPoint_13  (k1 := ?_)
      exact hj2 _  h
noncomputable def L_Cn_wipeRidge_39 (κ : Ko) : Nat → Nat → Nat → Int32 → Int32 → Int32 → Int32 → AS → Option AS
  | 0, _, _, _, _, _, _, _ => none
  | d + 1, a0, a1, x2, x3, x4, x5, st => if x4 < x5 then some st else bnd (f_Cn_pointOf κ a0 a1 x2 x5 st) (fun v4 => jn (fun (s6 : AS) => L_Cn_wipeRidge_39 κ  d a0 a1 x2 x3 x4 (x5 + 1) (gput s6 (a0 + 1) 40401 v4 (0 : Int32))) fun j5 => if x5 ≤ 0 then j5 st else if x3 ≤ x5 then j5 st else j5 (f_Cn_countPoint κ a0 (gat (gi st (a0 + 1)) 40401 v4) st))
noncomputable def f_Cn_wipeRidge (κ : Ko) (a0 : Nat) (a1 : Nat) (x2 : Int32) (st : AS) : Option AS := bnd (f_Sh_ridgePart κ a1 x2 (0 : Int32) st) (fun v1 => bnd (f_Sh_ridgePart κ a1 x2 (3 : Int32) st) (fun v2 => bnd (f_Sh_ridgePart κ a1 x2 (2 : Int32) st) (fun v3 => L_Cn_wipeRidge_39 κ  FU a0 a1 x2 (if v1 = 0 then (f_Sh_side κ a1 (1 : Int32) st) else f_Sh_side κ a1 (0 : Int32) st : Int32) v2 v3 st)))
theorem l_Cn_wipeRidge_39 {κ : Ko} {F : AS → Prop} {s' : AS} (k : F s') : ∀ (d : Nat) (a0 : Nat) (a1 : Nat) (x2 : Int32) (x3 : Int32) (x4 : Int32) (x5 : Int32) (st : AS), ly κ a0 = (1, 4) → ly κ a1 = (8, 14) → L_Cn_wipeRidge_39 κ  d a0 a1 x2 x3 x4 x5 st = some s' → V κ M_Cn_wipeRidge (RV F) 39 [some (.ref a0), some (.ref a1), some (.int x2), some (.int x3), some (.int x4), some (.int x5), none] [] st := by
  intro d
  induction d with
  | zero =>
    intro a0 a1 x2 x3 x4 x5 st l_a0 l_a1 h
    exact nn_some h
  | succ d ih =>
    intro a0 a1 x2 x3 x4 x5 st l_a0 l_a1 h
    rw [L_Cn_wipeRidge_39] at h
    refine b_Cn_wipeRidge_39  (k1 := fun e7 => ?_) (k2 := fun e7 => ?_)
    · replace h := if_t e7 h
      exact b_Cn_wipeRidge_96  (k1 := lfV h k)
    · replace h := if_f e7 h
      obtain ⟨v4, h8, h⟩ := bnd_some h
      refine b_Cn_wipeRidge_46 (l_a0 := l_a0) (k1 := t_Cn_pointOf l_a0 l_a1 h8 ?_)
      obtain ⟨j5, hdj5, h⟩ := jn_some h
      have hj5 : ∀ (s6 : AS), j5 s6 = some s' → V κ M_Cn_wipeRidge (RV F) 80 [some (.ref a0), some (.ref a1), some (.int x2), some (.int x3), some (.int x4), some (.int x5), some (.int v4)] [] s6 := by
        intro s6 h
        rw [hdj5] at h
        refine b_Cn_wipeRidge_80 (l_a0 := l_a0) (k1 := t_X_put (co1 1 50 40401 rfl l_a0) rfl ?_)
        refine b_Cn_wipeRidge_90  (k1 := ?_)
        exact ih _ _ _ _ _ _ _ l_a0 l_a1 h
      clear hdj5
      refine b_Cn_wipeRidge_54  (k1 := fun e9 => ?_) (k2 := fun e9 => ?_)
      · replace h := if_t e9 h
        exact hj5 _  h
      · replace h := if_f e9 h
        refine b_Cn_wipeRidge_61  (k1 := fun e10 => ?_) (k2 := fun e10 => ?_)
        · replace h := if_t e10 h
          exact hj5 _  h
        · replace h := if_f e10 h
          refine b_Cn_wipeRidge_67 (l_a0 := l_a0) (k1 := t_X_at (co1 1 50 40401 rfl l_a0) rfl ?_)
          refine b_Cn_wipeRidge_77 (l_c0 := l_a0) (k1 := t_Cn_countPoint l_a0 rfl ?_)
          exact hj5 _  h
theorem t_Cn_wipeRidge {κ : Ko} {F : AS → Prop} {a0 : Nat} {a1 : Nat} {x2 : Int32} {st : AS} {s' : AS} (l_a0 : ly κ a0 = (1, 4)) (l_a1 : ly κ a1 = (8, 14)) (h : f_Cn_wipeRidge κ a0 a1 x2 st = some s') (k : F s') : C κ M_Cn_wipeRidge [.ref a0, .ref a1, .int x2] st (RV F) := by
  unfold f_Cn_wipeRidge at h
  refine e_Cn_wipeRidge ?_
  obtain ⟨v1, h11, h⟩ := bnd_some h
  refine b_Cn_wipeRidge_0 (l_a1 := l_a1) (k1 := t_Sh_ridgePart l_a1 h11 ?_)
  have K13 : V κ M_Cn_wipeRidge (RV F) 22 [some (.ref a0), some (.ref a1), some (.int x2), none, none, none, none] [.int (if v1 = 0 then (f_Sh_side κ a1 (1 : Int32) st) else f_Sh_side κ a1 (0 : Int32) st : Int32)] st := by
    obtain ⟨v2, h14, h⟩ := bnd_some h
    refine b_Cn_wipeRidge_22 (l_a1 := l_a1) (k1 := t_Sh_ridgePart l_a1 h14 ?_)
    obtain ⟨v3, h15, h⟩ := bnd_some h
    refine b_Cn_wipeRidge_29 (l_a1 := l_a1) (k1 := t_Sh_ridgePart l_a1 h15 ?_)
    refine b_Cn_wipeRidge_37  (k1 := ?_)
    refine l_Cn_wipeRidge_39 k FU _ _ _ _ _ _ _ l_a0 l_a1 h
  refine b_Cn_wipeRidge_6  (k1 := fun e16 => ?_) (k2 := fun e16 => ?_)
  · refine b_Cn_wipeRidge_17 (l_a1 := l_a1) (k1 := t_Sh_side l_a1 rfl ?_)
    exact (ite_f (P := fun z => V κ M_Cn_wipeRidge (RV F) 22 [some (.ref a0), some (.ref a1), some (.int x2), none, none, none, none] [.int z] st) e16 K13)
  · refine b_Cn_wipeRidge_9 (l_a1 := l_a1) (k1 := t_Sh_side l_a1 rfl ?_)
    refine b_Cn_wipeRidge_14  (k1 := ?_)
    exact (ite_t (P := fun z => V κ M_Cn_wipeRidge (RV F) 22 [some (.ref a0), some (.ref a1), some (.int x2), none, none, none, none] [.int z] st) e16 K13)
noncomputable def L_Cn_draw_12 (κ : Ko) (k_34 : Nat → Nat → AS → Option AS) : Nat → Nat → Nat → Int32 → AS → Option AS
  | 0, _, _, _, _ => none
  | d + 1, a0, a1, x2, st => if 5 ≤ x2 then k_34 a0 a1 st else grd (vp_in x2 5) (L_Cn_draw_12 κ k_34 d a0 a1 (x2 + 1) (ui st (a0 + 2) (x2 : Int32).toNatClampNeg 0))
noncomputable def L_Cn_draw_36 (κ : Ko) (k_56 : Nat → Nat → AS → Option AS) : Nat → Nat → Nat → Int32 → AS → Option AS
  | 0, _, _, _, _ => none
  | d + 1, a0, a1, x2, st => if (f_Sh_ridgeCount κ a1 st) ≤ x2 then k_56 a0 a1 st else bnd (f_Cn_drawRidge κ a0 a1 x2 st) (fun s8 => L_Cn_draw_36 κ k_56 d a0 a1 (x2 + 1) s8)
noncomputable def L_Cn_draw_58 (κ : Ko) : Nat → Nat → Nat → Int32 → AS → Option AS
  | 0, _, _, _, _ => none
  | d + 1, a0, a1, x2, st => if (f_Sh_ridgeCount κ a1 st) ≤ x2 then some st else bnd (f_Cn_wipeRidge κ a0 a1 x2 st) (fun s16 => L_Cn_draw_58 κ  d a0 a1 (x2 + 1) s16)
noncomputable def f_Cn_draw (κ : Ko) (a0 : Nat) (a1 : Nat) (st : AS) : Option AS := L_Cn_draw_12 κ (fun (v3 : Nat) (v5 : Nat) (s7 : AS) => L_Cn_draw_36 κ (fun (v11 : Nat) (v13 : Nat) (s15 : AS) => L_Cn_draw_58 κ  FU v11 v13 (0 : Int32) s15) FU v3 v5 (0 : Int32) s7) FU a0 a1 (0 : Int32) (ui (ui st a0 2 0) a0 3 1)
theorem l_Cn_draw_12 {κ : Ko} {F : AS → Prop} {s' : AS} (k : F s') {k_34 : Nat → Nat → AS → Option AS} (hk_34 : ∀ (a0 : Nat) (a1 : Nat) (st : AS), ly κ a0 = (1, 4) → ly κ a1 = (8, 14) → k_34 a0 a1 st = some s' → V κ M_Cn_draw (RV F) 34 [some (.ref a0), some (.ref a1), none] [] st) : ∀ (d : Nat) (a0 : Nat) (a1 : Nat) (x2 : Int32) (st : AS), ly κ a0 = (1, 4) → ly κ a1 = (8, 14) → L_Cn_draw_12 κ k_34 d a0 a1 x2 st = some s' → V κ M_Cn_draw (RV F) 12 [some (.ref a0), some (.ref a1), some (.int x2)] [] st := by
  intro d
  induction d with
  | zero =>
    intro a0 a1 x2 st l_a0 l_a1 h
    exact nn_some h
  | succ d ih =>
    intro a0 a1 x2 st l_a0 l_a1 h
    rw [L_Cn_draw_12] at h
    refine b_Cn_draw_12 (l_a0 := l_a0) (k1 := fun e2 => ?_) (k2 := fun e2 => ?_)
    · replace h := if_t e2 h
      exact hk_34 _ _ _ l_a0 l_a1 h
    · replace h := if_f e2 h
      obtain ⟨h1, h⟩ := grd_some h
      refine b_Cn_draw_21 (l_a0 := l_a0) (b1 := h1) (k2 := ?_)
      exact ih _ _ _ _ l_a0 l_a1 h
theorem l_Cn_draw_36 {κ : Ko} {F : AS → Prop} {s' : AS} (k : F s') {k_56 : Nat → Nat → AS → Option AS} (hk_56 : ∀ (a0 : Nat) (a1 : Nat) (st : AS), ly κ a0 = (1, 4) → ly κ a1 = (8, 14) → k_56 a0 a1 st = some s' → V κ M_Cn_draw (RV F) 56 [some (.ref a0), some (.ref a1), none] [] st) : ∀ (d : Nat) (a0 : Nat) (a1 : Nat) (x2 : Int32) (st : AS), ly κ a0 = (1, 4) → ly κ a1 = (8, 14) → L_Cn_draw_36 κ k_56 d a0 a1 x2 st = some s' → V κ M_Cn_draw (RV F) 36 [some (.ref a0), some (.ref a1), some (.int x2)] [] st := by
  intro d
  induction d with
  | zero =>
    intro a0 a1 x2 st l_a0 l_a1 h
    exact nn_some h
  | succ d ih =>
    intro a0 a1 x2 st l_a0 l_a1 h
    rw [L_Cn_draw_36] at h
    refine b_Cn_draw_36 (l_a1 := l_a1) (k1 := t_Sh_ridgeCount l_a1 rfl ?_)
    refine b_Cn_draw_41  (k1 := fun e9 => ?_) (k2 := fun e9 => ?_)
    · replace h := if_t e9 h
      exact hk_56 _ _ _ l_a0 l_a1 h
    · replace h := if_f e9 h
      obtain ⟨s8, h10, h⟩ := bnd_some h
      refine b_Cn_draw_44 (l_a0 := l_a0) (k1 := t_Cn_drawRidge l_a0 l_a1 h10 ?_)
      refine b_Cn_draw_50  (k1 := ?_)
      exact ih _ _ _ _ l_a0 l_a1 h
theorem l_Cn_draw_58 {κ : Ko} {F : AS → Prop} {s' : AS} (k : F s') : ∀ (d : Nat) (a0 : Nat) (a1 : Nat) (x2 : Int32) (st : AS), ly κ a0 = (1, 4) → ly κ a1 = (8, 14) → L_Cn_draw_58 κ  d a0 a1 x2 st = some s' → V κ M_Cn_draw (RV F) 58 [some (.ref a0), some (.ref a1), some (.int x2)] [] st := by
  intro d
  induction d with
  | zero =>
    intro a0 a1 x2 st l_a0 l_a1 h
    exact nn_some h
  | succ d ih =>
    intro a0 a1 x2 st l_a0 l_a1 h
    rw [L_Cn_draw_58] at h
    refine b_Cn_draw_58 (l_a1 := l_a1) (k1 := t_Sh_ridgeCount l_a1 rfl ?_)
    refine b_Cn_draw_63  (k1 := fun e17 => ?_) (k2 := fun e17 => ?_)
    · replace h := if_t e17 h
      exact b_Cn_draw_78  (k1 := lfV h k)
    · replace h := if_f e17 h
      obtain ⟨s16, h18, h⟩ := bnd_some h
      refine b_Cn_draw_66 (l_a0 := l_a0) (k1 := t_Cn_wipeRidge l_a0 l_a1 h18 ?_)
      refine b_Cn_draw_72  (k1 := ?_)
      exact ih _ _ _ _ l_a0 l_a1 h
theorem t_Cn_draw {κ : Ko} {F : AS → Prop} {a0 : Nat} {a1 : Nat} {st : AS} {s' : AS} (l_a0 : ly κ a0 = (1, 4)) (l_a1 : ly κ a1 = (8, 14)) (h : f_Cn_draw κ a0 a1 st = some s') (k : F s') : C κ M_Cn_draw [.ref a0, .ref a1] st (RV F) := by
  unfold f_Cn_draw at h
  refine e_Cn_draw ?_
  refine b_Cn_draw_0 (l_a0 := l_a0) (k1 := ?_)
  refine l_Cn_draw_12 k ?_ FU _ _ _ _ l_a0 l_a1 h
  · intro v3 v5 s7 l4 l6 h
    refine b_Cn_draw_34  (k1 := ?_)
    refine l_Cn_draw_36 k ?_ FU _ _ _ _ l4 l6 h
    · intro v11 v13 s15 l12 l14 h
      refine b_Cn_draw_56  (k1 := ?_)
      refine l_Cn_draw_58 k FU _ _ _ _ l12 l14 h
noncomputable def f_Cn_all (κ : Ko) (a0 : Nat) (st : AS) : Int32 := (gi st a0 2)
theorem t_Cn_all {κ : Ko} {F : Int32 → AS → Prop} {a0 : Nat} {st : AS} {v : Int32} (l_a0 : ly κ a0 = (1, 4)) (h : f_Cn_all κ a0 st = v) (k : F v st) : C κ M_Cn_all [.ref a0] st (RI F) := by
  unfold f_Cn_all at h
  refine e_Cn_all ?_
  exact b_Cn_all_0 (l_a0 := l_a0) (k1 := lfIPT h k)
noncomputable def f_Cn_withArms (κ : Ko) (a0 : Nat) (x1 : Int32) (st : AS) : Int32 := (gat (gi st (a0 + 2)) 5 x1)
theorem t_Cn_withArms {κ : Ko} {F : Int32 → AS → Prop} {a0 : Nat} {x1 : Int32} {st : AS} {v : Int32} (l_a0 : ly κ a0 = (1, 4)) (h : f_Cn_withArms κ a0 x1 st = v) (k : F v st) : C κ M_Cn_withArms [.ref a0, .int x1] st (RI F) := by
  unfold f_Cn_withArms at h
  refine e_Cn_withArms ?_
  refine b_Cn_withArms_0 (l_a0 := l_a0) (k1 := t_X_at (co1 2 50 5 rfl l_a0) rfl ?_)
  exact b_Cn_withArms_8  (k1 := lfIPT h k)
noncomputable def f_X_corners (κ : Ko) (a0 : Nat) (x1 : Int32) (x2 : Int32) (st : AS) : Option (Int32 × AS) := bnd (f_Pl_get κ (a0 + 21) x1 st) (fun v1 => nul v1 (some (((-1) : Int32), st)) (fun c2 => grd (ly κ c2 = (8, 14)) (jn (bnd (f_Cn_draw κ (a0 + 62) c2 st) (fun s5 => some ((if x2 = 0 then (f_Cn_all κ (a0 + 62) s5) else (f_Cn_withArms κ (a0 + 62) x2 s5) : Int32), s5))) fun j4 => if x2 = 0 then j4 else if (wi ((x2 : Int32).toInt64) (2 : Int64) (4 : Int64)) = 0 then some (((-1) : Int32), st) else j4)))
theorem t_X_corners {κ : Ko} {F : Int32 → AS → Prop} {a0 : Nat} {x1 : Int32} {x2 : Int32} {st : AS} {v : Int32} {s' : AS} (l_a0 : ly κ a0 = (11, 15)) (h : f_X_corners κ a0 x1 x2 st = some (v, s')) (k : F v s') : C κ M_X_corners [.ref a0, .int x1, .int x2] st (RI F) := by
  unfold f_X_corners at h
  refine e_X_corners ?_
  obtain ⟨v1, h6, h⟩ := bnd_some h
  refine b_X_corners_0 (l_a0 := l_a0) (k1 := t_Pl_get (co11 21 5 3 rfl l_a0) h6 ?_)
  rcases v1 with _ | c2
  · replace h := nul_n h
    exact b_X_corners_8_RN  (k1 := lfI h k)
  · obtain ⟨l3, h⟩ := grd_some (nul_s h)
    obtain ⟨j4, hdj4, h⟩ := jn_some h
    have hj4 : j4 = some (v, s') → V κ M_X_corners (RI F) 33 [some (.ref a0), none, some (.int x2), some (.ref c2)] [] st := by
      intro h
      rw [hdj4] at h
      obtain ⟨s5, h7, h⟩ := bnd_some h
      refine b_X_corners_33 (l_a0 := l_a0) (k1 := t_Cn_draw (co11 62 1 4 rfl l_a0) l3 h7 ?_)
      have K9 : (RI F) (some (.int (if x2 = 0 then (f_Cn_all κ (a0 + 62) s5) else (f_Cn_withArms κ (a0 + 62) x2 s5) : Int32))) s5 := lfI h k
      refine b_X_corners_41  (k1 := fun e10 => ?_) (k2 := fun e10 => ?_)
      · refine b_X_corners_55 (l_a0 := l_a0) (k1 := t_Cn_withArms (co11 62 1 4 rfl l_a0) rfl ?_)
        exact b_X_corners_63  (k1 := (ite_f (P := fun z => (RI F) (some (.int z)) s5) e10 K9))
      · refine b_X_corners_45 (l_a0 := l_a0) (k1 := t_Cn_all (co11 62 1 4 rfl l_a0) rfl ?_)
        exact b_X_corners_52  (k1 := (ite_t (P := fun z => (RI F) (some (.int z)) s5) e10 K9))
    clear hdj4
    refine b_X_corners_8_RR  (k1 := fun e11 => ?_) (k2 := fun e11 => ?_)
    · replace h := if_t e11 h
      exact hj4  h
    · replace h := if_f e11 h
      refine b_X_corners_17  (k1 := t_X_within  rfl ?_)
      refine b_X_corners_28  (k1 := fun e12 => ?_) (k2 := fun e12 => ?_)
      · replace h := if_f e12 h
        exact hj4  h
      · replace h := if_t e12 h
        exact b_X_corners_31  (k1 := lfI h k)
noncomputable def f_Cn_liesFlat (κ : Ko) (a0 : Nat) (st : AS) : Option Int32 := grd ((gi st a0 3) = 0 ∨ (gi st a0 3) = 1) (some (gi st a0 3))
theorem t_Cn_liesFlat {κ : Ko} {F : Int32 → AS → Prop} {a0 : Nat} {st : AS} {v : Int32} (l_a0 : ly κ a0 = (1, 4)) (h : f_Cn_liesFlat κ a0 st = some v) (k : F v st) : C κ M_Cn_liesFlat [.ref a0] st (RI F) := by
  unfold f_Cn_liesFlat at h
  refine e_Cn_liesFlat ?_
  obtain ⟨h1, h⟩ := grd_some h
  exact b_Cn_liesFlat_0 (l_a0 := l_a0) (nz2 := h1) (k1 := lfIP h k)
noncomputable def f_X_flat (κ : Ko) (a0 : Nat) (x1 : Int32) (st : AS) : Option (Int32 × AS) := bnd (f_Pl_get κ (a0 + 21) x1 st) (fun v1 => nul v1 (some (((-1) : Int32), st)) (fun c2 => grd (ly κ c2 = (8, 14)) (bnd (f_Cn_draw κ (a0 + 62) c2 st) (fun s4 => bnd (f_Cn_liesFlat κ (a0 + 62) s4) (fun v5 => some ((if v5 = 0 then (0 : Int32) else (1 : Int32) : Int32), s4))))))
theorem t_X_flat {κ : Ko} {F : Int32 → AS → Prop} {a0 : Nat} {x1 : Int32} {st : AS} {v : Int32} {s' : AS} (l_a0 : ly κ a0 = (11, 15)) (h : f_X_flat κ a0 x1 st = some (v, s')) (k : F v s') : C κ M_X_flat [.ref a0, .int x1] st (RI F) := by
  unfold f_X_flat at h
  refine e_X_flat ?_
  obtain ⟨v1, h6, h⟩ := bnd_some h
  refine b_X_flat_0 (l_a0 := l_a0) (k1 := t_Pl_get (co11 21 5 3 rfl l_a0) h6 ?_)
  rcases v1 with _ | c2
  · replace h := nul_n h
    exact b_X_flat_8_RN  (k1 := lfI h k)
  · obtain ⟨l3, h⟩ := grd_some (nul_s h)
    obtain ⟨s4, h7, h⟩ := bnd_some h
    refine b_X_flat_8_RR (l_a0 := l_a0) (k1 := t_Cn_draw (co11 62 1 4 rfl l_a0) l3 h7 ?_)
    obtain ⟨v5, h8, h⟩ := bnd_some h
    refine b_X_flat_23 (l_a0 := l_a0) (k1 := t_Cn_liesFlat (co11 62 1 4 rfl l_a0) h8 ?_)
    have K10 : (RI F) (some (.int (if v5 = 0 then (0 : Int32) else (1 : Int32) : Int32))) s4 := lfI h k
    refine b_X_flat_30  (k1 := fun e11 => ?_) (k2 := fun e11 => ?_)
    · exact b_X_flat_37  (k1 := (ite_t (P := fun z => (RI F) (some (.int z)) s4) e11 K10))
    · exact b_X_flat_33  (k1 := (ite_f (P := fun z => (RI F) (some (.int z)) s4) e11 K10))
noncomputable def L_Sh_strengthAt_5 (κ : Ko) (st : AS) (k_60 : Int32 → Int64 → Option Int32) : Nat → Nat → Int32 → Int64 → Int32 → Option Int32
  | 0, _, _, _, _ => none
  | d + 1, a0, x1, y2, x4 => if (gi st a0 12) ≤ x4 then k_60 x1 y2 else bnd (f_Sh_lengthOf κ a0 x4 st) (fun v1 => bnd (f_Sh_ridgePart κ a0 x4 (6 : Int32) st) (fun v2 => bnd (f_Sh_isSoft κ a0 x4 st) (fun v3 => L_Sh_strengthAt_5 κ st k_60 d a0 x1 (if v3 = 0 then y2 + (((v1 * v2) : Int32).toInt64) else y2 + (((v1 * v2) / 2 : Int32).toInt64) : Int64) (x4 + 1))))
noncomputable def f_Sh_strengthAt (κ : Ko) (a0 : Nat) (x1 : Int32) (st : AS) : Option Int32 := L_Sh_strengthAt_5 κ st (fun (v11 : Int32) (v12 : Int64) => if v11 = 0 then some (0 : Int32) else grd (¬ ((v11 : Int32).toInt64) = 0) (some (((v12 * 100) / ((v11 : Int32).toInt64) : Int64).toInt32))) FU a0 x1 (0 : Int64) (0 : Int32)
theorem l_Sh_strengthAt_5 {κ : Ko} {F : Int32 → AS → Prop} {v : Int32} {st : AS} (k : F v st) {k_60 : Int32 → Int64 → Option Int32} (hk_60 : ∀ (x1 : Int32) (y2 : Int64), k_60 x1 y2 = some v → V κ M_Sh_strengthAt (RI F) 60 [none, some (.int x1), some (.long y2), none, none, none] [] st) : ∀ (d : Nat) (a0 : Nat) (x1 : Int32) (y2 : Int64) (x4 : Int32), ly κ a0 = (8, 14) → L_Sh_strengthAt_5 κ st k_60 d a0 x1 y2 x4 = some v → V κ M_Sh_strengthAt (RI F) 5 [some (.ref a0), some (.int x1), some (.long y2), none, some (.int x4), none] [] st := by
  intro d
  induction d with
  | zero =>
    intro a0 x1 y2 x4 l_a0 h
    exact nn_some h
  | succ d ih =>
    intro a0 x1 y2 x4 l_a0 h
    rw [L_Sh_strengthAt_5] at h
    refine b_Sh_strengthAt_5 (l_a0 := l_a0) (k1 := fun e4 => ?_) (k2 := fun e4 => ?_)
    · replace h := if_t e4 h
      exact hk_60 _ _  h
    · replace h := if_f e4 h
      obtain ⟨v1, h5, h⟩ := bnd_some h
      refine b_Sh_strengthAt_14 (l_a0 := l_a0) (k1 := t_Sh_lengthOf l_a0 h5 ?_)
      obtain ⟨v2, h6, h⟩ := bnd_some h
      refine b_Sh_strengthAt_20 (l_a0 := l_a0) (k1 := t_Sh_ridgePart l_a0 h6 ?_)
      obtain ⟨v3, h7, h⟩ := bnd_some h
      refine b_Sh_strengthAt_28 (l_a0 := l_a0) (k1 := t_Sh_isSoft l_a0 h7 ?_)
      have K9 : V κ M_Sh_strengthAt (RI F) 5 [some (.ref a0), some (.int x1), some (.long (if v3 = 0 then y2 + (((v1 * v2) : Int32).toInt64) else y2 + (((v1 * v2) / 2 : Int32).toInt64) : Int64)), none, some (.int (x4 + 1)), none] [] st := by
        exact ih _ _ _ _ l_a0 h
      refine b_Sh_strengthAt_38  (k1 := fun e10 => ?_) (k2 := fun e10 => ?_)
      · refine b_Sh_strengthAt_49  (k1 := ?_)
        exact (ite_t (P := fun z => V κ M_Sh_strengthAt (RI F) 5 [some (.ref a0), some (.int x1), some (.long z), none, some (.int (x4 + 1)), none] [] st) e10 K9)
      · refine b_Sh_strengthAt_41  (k1 := ?_)
        exact (ite_f (P := fun z => V κ M_Sh_strengthAt (RI F) 5 [some (.ref a0), some (.int x1), some (.long z), none, some (.int (x4 + 1)), none] [] st) e10 K9)
theorem t_Sh_strengthAt {κ : Ko} {F : Int32 → AS → Prop} {a0 : Nat} {x1 : Int32} {st : AS} {v : Int32} (l_a0 : ly κ a0 = (8, 14)) (h : f_Sh_strengthAt κ a0 x1 st = some v) (k : F v st) : C κ M_Sh_strengthAt [.ref a0, .int x1] st (RI F) := by
  unfold f_Sh_strengthAt at h
  refine e_Sh_strengthAt ?_
  refine b_Sh_strengthAt_0  (k1 := ?_)
  refine l_Sh_strengthAt_5 k ?_ FU _ _ _ _ l_a0 h
  · intro v11 v12 h
    refine b_Sh_strengthAt_60  (k1 := fun e14 => ?_) (k2 := fun e14 => ?_)
    · replace h := if_f e14 h
      obtain ⟨h13, h⟩ := grd_some h
      exact b_Sh_strengthAt_68 (z1 := h13) (k2 := lfIP h k)
    · replace h := if_t e14 h
      exact b_Sh_strengthAt_64  (k1 := lfIP h k)
noncomputable def f_X_strength (κ : Ko) (a0 : Nat) (x1 : Int32) (x2 : Int32) (st : AS) : Option Int32 := bnd (f_Pl_get κ (a0 + 21) x1 st) (fun v1 => nul v1 (some ((-1) : Int32)) (fun c2 => grd (ly κ c2 = (8, 14)) (if (f_X_isTight κ x2 st) = 0 then some ((-1) : Int32) else bnd (f_Sh_strengthAt κ c2 x2 st) (fun v4 => some v4))))
theorem t_X_strength {κ : Ko} {F : Int32 → AS → Prop} {a0 : Nat} {x1 : Int32} {x2 : Int32} {st : AS} {v : Int32} (l_a0 : ly κ a0 = (11, 15)) (h : f_X_strength κ a0 x1 x2 st = some v) (k : F v st) : C κ M_X_strength [.ref a0, .int x1, .int x2] st (RI F) := by
  unfold f_X_strength at h
  refine e_X_strength ?_
  obtain ⟨v1, h5, h⟩ := bnd_some h
  refine b_X_strength_0 (l_a0 := l_a0) (k1 := t_Pl_get (co11 21 5 3 rfl l_a0) h5 ?_)
  rcases v1 with _ | c2
  · replace h := nul_n h
    exact b_X_strength_8_N  (k1 := lfIP h k)
  · obtain ⟨l3, h⟩ := grd_some (nul_s h)
    refine b_X_strength_8_R  (k1 := t_X_isTight  rfl ?_)
    refine b_X_strength_17  (k1 := fun e6 => ?_) (k2 := fun e6 => ?_)
    · replace h := if_f e6 h
      obtain ⟨v4, h7, h⟩ := bnd_some h
      refine b_X_strength_22 (l_a3 := l3) (k1 := t_Sh_strengthAt l3 h7 ?_)
      exact b_X_strength_27  (k1 := lfIP h k)
    · replace h := if_t e6 h
      exact b_X_strength_20  (k1 := lfIP h k)
noncomputable def f_X_stripAt (κ : Ko) (a0 : Nat) (x1 : Int32) (st : AS) : Option (Option Nat) := jn (some none) fun j5 => if (wi ((x1 : Int32).toInt64) (0 : Int64) (((gat (gi st (a0 + 7)) 4 (3 : Int32)) - 1 : Int32).toInt64)) = 0 then j5 else if 6 ≤ x1 then j5 else grd (vp_in x1 6) (bnd (gr st (a0 + 11) (x1 : Int32).toNatClampNeg) (fun c3 => grd (ly κ c3 = (10, 7)) (some (some c3))))
theorem t_X_stripAt {κ : Ko} {F : Value → AS → Prop} {a0 : Nat} {x1 : Int32} {st : AS} {v : Option Nat} (l_a0 : ly κ a0 = (11, 15)) (h : f_X_stripAt κ a0 x1 st = some v) (k : F (vof v) st) : C κ M_X_stripAt [.ref a0, .int x1] st (RR F) := by
  unfold f_X_stripAt at h
  refine e_X_stripAt ?_
  refine b_X_stripAt_0 (l_a0 := l_a0) (k1 := t_X_at (co11 7 50 4 rfl l_a0) rfl ?_)
  refine b_X_stripAt_11  (k1 := t_X_within  rfl ?_)
  obtain ⟨j5, hdj5, h⟩ := jn_some h
  have hj5 : j5 = some v → V κ M_X_stripAt (RR F) 38 [none, none] [] st := by
    intro h
    rw [hdj5] at h
    exact b_X_stripAt_38  (k1 := lfR0P h k)
  clear hdj5
  refine b_X_stripAt_17  (k1 := fun e6 => ?_) (k2 := fun e6 => ?_)
  · replace h := if_t e6 h
    exact hj5  h
  · replace h := if_f e6 h
    refine b_X_stripAt_20 (l_a0 := l_a0) (k1 := fun e7 => ?_) (k2 := fun e7 => ?_)
    · replace h := if_t e7 h
      exact hj5  h
    · replace h := if_f e7 h
      obtain ⟨h1, h⟩ := grd_some h
      obtain ⟨c3, h2, h⟩ := bnd_some h
      obtain ⟨l4, h⟩ := grd_some h
      exact b_X_stripAt_29 (l_a0 := l_a0) (b1 := h1) (g2 := h2) (k3 := lfR1P h k)
noncomputable def L_Sp_closeUp_12 (κ : Ko) : Nat → Nat → Int32 → Int32 → AS → Option AS
  | 0, _, _, _, _ => none
  | d + 1, a0, x2, x3, st => if (gi st a0 5) < x3 then some st else L_Sp_closeUp_12 κ  d a0 x2 (x3 + 1) (gput (gput st (a0 + 3) 21 x3 (gat (gi st (a0 + 3)) 21 (x3 + x2))) (a0 + 4) 20 x3 (gat (gi (gput st (a0 + 3) 21 x3 (gat (gi st (a0 + 3)) 21 (x3 + x2))) (a0 + 4)) 20 (x3 + x2)))
noncomputable def f_Sp_closeUp (κ : Ko) (a0 : Nat) (x1 : Int32) (x2 : Int32) (st : AS) : Option AS := L_Sp_closeUp_12 κ  FU a0 x2 x1 (ui st a0 5 ((gi st a0 5) - x2))
theorem l_Sp_closeUp_12 {κ : Ko} {F : AS → Prop} {s' : AS} (k : F s') : ∀ (d : Nat) (a0 : Nat) (x2 : Int32) (x3 : Int32) (st : AS), ly κ a0 = (10, 7) → L_Sp_closeUp_12 κ  d a0 x2 x3 st = some s' → V κ M_Sp_closeUp (RV F) 12 [some (.ref a0), none, some (.int x2), some (.int x3)] [] st := by
  intro d
  induction d with
  | zero =>
    intro a0 x2 x3 st l_a0 h
    exact nn_some h
  | succ d ih =>
    intro a0 x2 x3 st l_a0 h
    rw [L_Sp_closeUp_12] at h
    refine b_Sp_closeUp_12 (l_a0 := l_a0) (k1 := fun e1 => ?_) (k2 := fun e1 => ?_)
    · replace h := if_t e1 h
      exact b_Sp_closeUp_62  (k1 := lfV h k)
    · replace h := if_f e1 h
      refine b_Sp_closeUp_20 (l_a0 := l_a0) (k1 := t_X_at (co10 3 50 21 rfl l_a0) rfl ?_)
      refine b_Sp_closeUp_35  (k1 := t_X_put (co10 3 50 21 rfl l_a0) rfl ?_)
      refine b_Sp_closeUp_38 (l_a0 := l_a0) (k1 := t_X_at (co10 4 50 20 rfl l_a0) rfl ?_)
      refine b_Sp_closeUp_53  (k1 := t_X_put (co10 4 50 20 rfl l_a0) rfl ?_)
      refine b_Sp_closeUp_56  (k1 := ?_)
      exact ih _ _ _ _ l_a0 h
theorem t_Sp_closeUp {κ : Ko} {F : AS → Prop} {a0 : Nat} {x1 : Int32} {x2 : Int32} {st : AS} {s' : AS} (l_a0 : ly κ a0 = (10, 7)) (h : f_Sp_closeUp κ a0 x1 x2 st = some s') (k : F s') : C κ M_Sp_closeUp [.ref a0, .int x1, .int x2] st (RV F) := by
  unfold f_Sp_closeUp at h
  refine e_Sp_closeUp ?_
  refine b_Sp_closeUp_0 (l_a0 := l_a0) (k1 := ?_)
  refine l_Sp_closeUp_12 k FU _ _ _ _ l_a0 h
noncomputable def L_Sp_firstPleat_2 (κ : Ko) (st : AS) : Nat → Nat → Int32 → Option Int32
  | 0, _, _ => none
  | d + 1, a0, x1 => if (gi st a0 5) ≤ (x1 + 1) then some ((-1) : Int32) else jn (fun (v3 : Int32) => jn (L_Sp_firstPleat_2 κ st  d a0 (x1 + 1)) fun j4 => if v3 = 0 then j4 else if (gat (gi st (a0 + 4)) 20 x1) = (gat (gi st (a0 + 4)) 20 (x1 + 1)) then j4 else some x1) fun j2 => jn (j2 (0 : Int32)) fun j1 => if (gat (gi st (a0 + 3)) 21 x1) < (gat (gi st (a0 + 3)) 21 (x1 + 1)) then j1 else if (gat (gi st (a0 + 3)) 21 (x1 + 2)) < (gat (gi st (a0 + 3)) 21 (x1 + 1)) then j1 else j2 (1 : Int32)
noncomputable def f_Sp_firstPleat (κ : Ko) (a0 : Nat) (st : AS) : Option Int32 := L_Sp_firstPleat_2 κ st  FU a0 (0 : Int32)
theorem l_Sp_firstPleat_2 {κ : Ko} {F : Int32 → AS → Prop} {v : Int32} {st : AS} (k : F v st) : ∀ (d : Nat) (a0 : Nat) (x1 : Int32), ly κ a0 = (10, 7) → L_Sp_firstPleat_2 κ st  d a0 x1 = some v → V κ M_Sp_firstPleat (RI F) 2 [some (.ref a0), some (.int x1), none, none] [] st := by
  intro d
  induction d with
  | zero =>
    intro a0 x1 l_a0 h
    exact nn_some h
  | succ d ih =>
    intro a0 x1 l_a0 h
    rw [L_Sp_firstPleat_2] at h
    refine b_Sp_firstPleat_2 (l_a0 := l_a0) (k1 := fun e5 => ?_) (k2 := fun e5 => ?_)
    · replace h := if_t e5 h
      exact b_Sp_firstPleat_88  (k1 := lfIP h k)
    · replace h := if_f e5 h
      refine b_Sp_firstPleat_12 (l_a0 := l_a0) (k1 := t_X_at (co10 3 50 21 rfl l_a0) rfl ?_)
      refine b_Sp_firstPleat_22 (l_a0 := l_a0) (k1 := t_X_at (co10 3 50 21 rfl l_a0) rfl ?_)
      obtain ⟨j2, hdj2, h⟩ := jn_some h
      have hj2 : ∀ (v3 : Int32), j2 v3 = some v → V κ M_Sp_firstPleat (RI F) 54 [some (.ref a0), some (.int x1), none, none] [.int v3] st := by
        intro v3 h
        rw [hdj2] at h
        obtain ⟨j4, hdj4, h⟩ := jn_some h
        have hj4 : j4 = some v → V κ M_Sp_firstPleat (RI F) 82 [some (.ref a0), some (.int x1), none, none] [] st := by
          intro h
          rw [hdj4] at h
          refine b_Sp_firstPleat_82  (k1 := ?_)
          exact ih _ _ l_a0 h
        clear hdj4
        refine b_Sp_firstPleat_54  (k1 := fun e6 => ?_) (k2 := fun e6 => ?_)
        · replace h := if_t e6 h
          exact hj4  h
        · replace h := if_f e6 h
          refine b_Sp_firstPleat_59 (l_a0 := l_a0) (k1 := t_X_at (co10 4 50 20 rfl l_a0) rfl ?_)
          refine b_Sp_firstPleat_67 (l_a0 := l_a0) (k1 := t_X_at (co10 4 50 20 rfl l_a0) rfl ?_)
          refine b_Sp_firstPleat_77  (k1 := fun e7 => ?_) (k2 := fun e7 => ?_)
          · replace h := if_t e7 h
            exact hj4  h
          · replace h := if_f e7 h
            exact b_Sp_firstPleat_80  (k1 := lfIP h k)
      clear hdj2
      obtain ⟨j1, hdj1, h⟩ := jn_some h
      have hj1 : j1 = some v → V κ M_Sp_firstPleat (RI F) 53 [some (.ref a0), some (.int x1), none, none] [] st := by
        intro h
        rw [hdj1] at h
        refine b_Sp_firstPleat_53  (k1 := ?_)
        exact hj2 _  h
      clear hdj1
      refine b_Sp_firstPleat_32  (k1 := fun e8 => ?_) (k2 := fun e8 => ?_)
      · replace h := if_t e8 h
        exact hj1  h
      · replace h := if_f e8 h
        refine b_Sp_firstPleat_35 (l_a0 := l_a0) (k1 := t_X_at (co10 3 50 21 rfl l_a0) rfl ?_)
        refine b_Sp_firstPleat_46  (k1 := fun e9 => ?_) (k2 := fun e9 => ?_)
        · replace h := if_t e9 h
          exact hj1  h
        · replace h := if_f e9 h
          refine b_Sp_firstPleat_49  (k1 := ?_)
          exact hj2 _  h
theorem t_Sp_firstPleat {κ : Ko} {F : Int32 → AS → Prop} {a0 : Nat} {st : AS} {v : Int32} (l_a0 : ly κ a0 = (10, 7)) (h : f_Sp_firstPleat κ a0 st = some v) (k : F v st) : C κ M_Sp_firstPleat [.ref a0] st (RI F) := by
  unfold f_Sp_firstPleat at h
  refine e_Sp_firstPleat ?_
  refine b_Sp_firstPleat_0  (k1 := ?_)
  refine l_Sp_firstPleat_2 k FU _ _ l_a0 h
noncomputable def f_Sp_reduceOnce (κ : Ko) (a0 : Nat) (st : AS) : Option (Int32 × AS) := if (gi st a0 5) = 0 then some ((0 : Int32), st) else if (gat (gi st (a0 + 3)) 21 (1 : Int32)) < (gat (gi st (a0 + 3)) 21 (0 : Int32)) then if (gat (gi st (a0 + 3)) 21 ((gi st a0 5) - 1)) < (gat (gi st (a0 + 3)) 21 (gi st a0 5)) then bnd (f_Sp_firstPleat κ a0 st) (fun v1 => if v1 = ((-1)) then some ((0 : Int32), st) else bnd (f_Sp_closeUp κ a0 v1 (2 : Int32) (gput st (a0 + 3) 21 (v1 + 2) (((gat (gi st (a0 + 3)) 21 v1) + (gat (gi st (a0 + 3)) 21 (v1 + 2))) - (gat (gi st (a0 + 3)) 21 (v1 + 1))))) (fun s2 => some ((1 : Int32), s2))) else some ((1 : Int32), ui st a0 5 ((gi st a0 5) - 1)) else bnd (f_Sp_closeUp κ a0 (0 : Int32) (1 : Int32) st) (fun s3 => some ((1 : Int32), s3))
theorem t_Sp_reduceOnce {κ : Ko} {F : Int32 → AS → Prop} {a0 : Nat} {st : AS} {v : Int32} {s' : AS} (l_a0 : ly κ a0 = (10, 7)) (h : f_Sp_reduceOnce κ a0 st = some (v, s')) (k : F v s') : C κ M_Sp_reduceOnce [.ref a0] st (RI F) := by
  unfold f_Sp_reduceOnce at h
  refine e_Sp_reduceOnce ?_
  refine b_Sp_reduceOnce_0 (l_a0 := l_a0) (k1 := fun e4 => ?_) (k2 := fun e4 => ?_)
  · replace h := if_f e4 h
    refine b_Sp_reduceOnce_9 (l_a0 := l_a0) (k1 := t_X_at (co10 3 50 21 rfl l_a0) rfl ?_)
    refine b_Sp_reduceOnce_17 (l_a0 := l_a0) (k1 := t_X_at (co10 3 50 21 rfl l_a0) rfl ?_)
    refine b_Sp_reduceOnce_25  (k1 := fun e5 => ?_) (k2 := fun e5 => ?_)
    · replace h := if_t e5 h
      refine b_Sp_reduceOnce_36 (l_a0 := l_a0) (k1 := t_X_at (co10 3 50 21 rfl l_a0) rfl ?_)
      refine b_Sp_reduceOnce_47 (l_a0 := l_a0) (k1 := t_X_at (co10 3 50 21 rfl l_a0) rfl ?_)
      refine b_Sp_reduceOnce_60  (k1 := fun e6 => ?_) (k2 := fun e6 => ?_)
      · replace h := if_t e6 h
        obtain ⟨v1, h7, h⟩ := bnd_some h
        refine b_Sp_reduceOnce_75 (l_a0 := l_a0) (k1 := t_Sp_firstPleat l_a0 h7 ?_)
        refine b_Sp_reduceOnce_79  (k1 := fun e8 => ?_) (k2 := fun e8 => ?_)
        · replace h := if_f e8 h
          refine b_Sp_reduceOnce_87 (l_a0 := l_a0) (k1 := t_X_at (co10 3 50 21 rfl l_a0) rfl ?_)
          refine b_Sp_reduceOnce_97 (l_a0 := l_a0) (k1 := t_X_at (co10 3 50 21 rfl l_a0) rfl ?_)
          refine b_Sp_reduceOnce_113 (l_a0 := l_a0) (k1 := t_X_at (co10 3 50 21 rfl l_a0) rfl ?_)
          refine b_Sp_reduceOnce_123  (k1 := t_X_put (co10 3 50 21 rfl l_a0) rfl ?_)
          obtain ⟨s2, h9, h⟩ := bnd_some h
          refine b_Sp_reduceOnce_129 (l_a0 := l_a0) (k1 := t_Sp_closeUp l_a0 h9 ?_)
          exact b_Sp_reduceOnce_135  (k1 := lfI h k)
        · replace h := if_t e8 h
          exact b_Sp_reduceOnce_85  (k1 := lfI h k)
      · replace h := if_f e6 h
        exact b_Sp_reduceOnce_63 (l_a0 := l_a0) (k1 := lfI h k)
    · replace h := if_f e5 h
      obtain ⟨s3, h10, h⟩ := bnd_some h
      refine b_Sp_reduceOnce_28 (l_a0 := l_a0) (k1 := t_Sp_closeUp l_a0 h10 ?_)
      exact b_Sp_reduceOnce_34  (k1 := lfI h k)
  · replace h := if_t e4 h
    exact b_Sp_reduceOnce_7  (k1 := lfI h k)
noncomputable def L_Sp_reduce_53 (κ : Ko) : Nat → Nat → AS → Option AS
  | 0, _, _ => none
  | d + 1, a0, st => if 20 ≤ (gi st a0 6) then some st else bnd2 (f_Sp_reduceOnce κ a0 st) (fun v1 s2 => if v1 = 0 then some s2 else L_Sp_reduce_53 κ  d a0 (ui s2 a0 6 ((gi s2 a0 6) + 1)))
noncomputable def f_Sp_reduce (κ : Ko) (a0 : Nat) (x1 : Int32) (st : AS) : Option AS := L_Sp_reduce_53 κ  FU a0 (ui (ui (gput (cpi (cpi st (a0 + 1) (a0 + 3) (min 21 21)) (a0 + 2) (a0 + 4) (min 20 20)) (a0 + 4) 20 x1 ((1 : Int32) - (gat (gi (cpi (cpi st (a0 + 1) (a0 + 3) (min 21 21)) (a0 + 2) (a0 + 4) (min 20 20)) (a0 + 4)) 20 x1))) a0 5 (gi (gput (cpi (cpi st (a0 + 1) (a0 + 3) (min 21 21)) (a0 + 2) (a0 + 4) (min 20 20)) (a0 + 4) 20 x1 ((1 : Int32) - (gat (gi (cpi (cpi st (a0 + 1) (a0 + 3) (min 21 21)) (a0 + 2) (a0 + 4) (min 20 20)) (a0 + 4)) 20 x1))) a0 2)) a0 6 0)
theorem l_Sp_reduce_53 {κ : Ko} {F : AS → Prop} {s' : AS} (k : F s') : ∀ (d : Nat) (a0 : Nat) (st : AS), ly κ a0 = (10, 7) → L_Sp_reduce_53 κ  d a0 st = some s' → V κ M_Sp_reduce (RV F) 53 [some (.ref a0), none] [] st := by
  intro d
  induction d with
  | zero =>
    intro a0 st l_a0 h
    exact nn_some h
  | succ d ih =>
    intro a0 st l_a0 h
    rw [L_Sp_reduce_53] at h
    refine b_Sp_reduce_53 (l_a0 := l_a0) (k1 := fun e3 => ?_) (k2 := fun e3 => ?_)
    · replace h := if_t e3 h
      exact b_Sp_reduce_82  (k1 := lfV h k)
    · replace h := if_f e3 h
      obtain ⟨v1, s2, h4, h⟩ := bnd2_some h
      refine b_Sp_reduce_62 (l_a0 := l_a0) (k1 := t_Sp_reduceOnce l_a0 h4 ?_)
      refine b_Sp_reduce_66  (k1 := fun e5 => ?_) (k2 := fun e5 => ?_)
      · replace h := if_t e5 h
        exact b_Sp_reduce_82  (k1 := lfV h k)
      · replace h := if_f e5 h
        refine b_Sp_reduce_69 (l_a0 := l_a0) (k1 := ?_)
        exact ih _ _ l_a0 h
theorem t_Sp_reduce {κ : Ko} {F : AS → Prop} {a0 : Nat} {x1 : Int32} {st : AS} {s' : AS} (l_a0 : ly κ a0 = (10, 7)) (h : f_Sp_reduce κ a0 x1 st = some s') (k : F s') : C κ M_Sp_reduce [.ref a0, .int x1] st (RV F) := by
  unfold f_Sp_reduce at h
  refine e_Sp_reduce ?_
  refine b_Sp_reduce_0 (l_a0 := l_a0) (k1 := t_X_copy (co10 1 50 21 rfl l_a0) (co10 3 50 21 rfl l_a0) rfl ?_)
  refine b_Sp_reduce_11 (l_a0 := l_a0) (k1 := t_X_copy (co10 2 50 20 rfl l_a0) (co10 4 50 20 rfl l_a0) rfl ?_)
  refine b_Sp_reduce_22 (l_a0 := l_a0) (k1 := t_X_at (co10 4 50 20 rfl l_a0) rfl ?_)
  refine b_Sp_reduce_36  (k1 := t_X_put (co10 4 50 20 rfl l_a0) rfl ?_)
  refine b_Sp_reduce_40 (l_a0 := l_a0) (k1 := ?_)
  refine l_Sp_reduce_53 k FU _ _ l_a0 h
noncomputable def L_Sp_deepestFold_7 (κ : Ko) : Nat → Nat → Int32 → Int32 → Int32 → AS → Option (Int32 × AS)
  | 0, _, _, _, _, _ => none
  | d + 1, a0, x1, x2, x3, st => if (gi st a0 2) ≤ x3 then some (x1, st) else bnd (f_Sp_reduce κ a0 x3 st) (fun s1 => L_Sp_deepestFold_7 κ  d a0 (if x2 ≤ (gi s1 a0 5) then x1 else x3 : Int32) (if x2 ≤ (gi s1 a0 5) then x2 else gi s1 a0 5 : Int32) (x3 + 1) s1)
noncomputable def f_Sp_deepestFold (κ : Ko) (a0 : Nat) (st : AS) : Option (Int32 × AS) := L_Sp_deepestFold_7 κ  FU a0 ((-1) : Int32) (2147483647 : Int32) (0 : Int32) st
theorem l_Sp_deepestFold_7 {κ : Ko} {F : Int32 → AS → Prop} {v : Int32} {s' : AS} (k : F v s') : ∀ (d : Nat) (a0 : Nat) (x1 : Int32) (x2 : Int32) (x3 : Int32) (st : AS), ly κ a0 = (10, 7) → L_Sp_deepestFold_7 κ  d a0 x1 x2 x3 st = some (v, s') → V κ M_Sp_deepestFold (RI F) 7 [some (.ref a0), some (.int x1), some (.int x2), some (.int x3)] [] st := by
  intro d
  induction d with
  | zero =>
    intro a0 x1 x2 x3 st l_a0 h
    exact nn_some h
  | succ d ih =>
    intro a0 x1 x2 x3 st l_a0 h
    rw [L_Sp_deepestFold_7] at h
    refine b_Sp_deepestFold_7 (l_a0 := l_a0) (k1 := fun e2 => ?_) (k2 := fun e2 => ?_)
    · replace h := if_t e2 h
      exact b_Sp_deepestFold_41  (k1 := lfI h k)
    · replace h := if_f e2 h
      obtain ⟨s1, h3, h⟩ := bnd_some h
      refine b_Sp_deepestFold_15 (l_a0 := l_a0) (k1 := t_Sp_reduce l_a0 h3 ?_)
      have K5 : V κ M_Sp_deepestFold (RI F) 7 [some (.ref a0), some (.int (if x2 ≤ (gi s1 a0 5) then x1 else x3 : Int32)), some (.int (if x2 ≤ (gi s1 a0 5) then x2 else gi s1 a0 5 : Int32)), some (.int (x3 + 1))] [] s1 := by
        exact ih _ _ _ _ _ l_a0 h
      refine b_Sp_deepestFold_20 (l_a0 := l_a0) (k1 := fun e6 => ?_) (k2 := fun e6 => ?_)
      · refine b_Sp_deepestFold_35  (k1 := ?_)
        exact (ite_t (P := fun z => V κ M_Sp_deepestFold (RI F) 7 [some (.ref a0), some (.int x1), some (.int z), some (.int (x3 + 1))] [] s1) e6 (ite_t (P := fun z => V κ M_Sp_deepestFold (RI F) 7 [some (.ref a0), some (.int z), some (.int (if x2 ≤ (gi s1 a0 5) then x2 else gi s1 a0 5 : Int32)), some (.int (x3 + 1))] [] s1) e6 K5))
      · refine b_Sp_deepestFold_28 (l_a0 := l_a0) (k1 := ?_)
        exact (ite_f (P := fun z => V κ M_Sp_deepestFold (RI F) 7 [some (.ref a0), some (.int x3), some (.int z), some (.int (x3 + 1))] [] s1) e6 (ite_f (P := fun z => V κ M_Sp_deepestFold (RI F) 7 [some (.ref a0), some (.int z), some (.int (if x2 ≤ (gi s1 a0 5) then x2 else gi s1 a0 5 : Int32)), some (.int (x3 + 1))] [] s1) e6 K5))
theorem t_Sp_deepestFold {κ : Ko} {F : Int32 → AS → Prop} {a0 : Nat} {st : AS} {v : Int32} {s' : AS} (l_a0 : ly κ a0 = (10, 7)) (h : f_Sp_deepestFold κ a0 st = some (v, s')) (k : F v s') : C κ M_Sp_deepestFold [.ref a0] st (RI F) := by
  unfold f_Sp_deepestFold at h
  refine e_Sp_deepestFold ?_
  refine b_Sp_deepestFold_0  (k1 := ?_)
  refine l_Sp_deepestFold_7 k FU _ _ _ _ _ l_a0 h
noncomputable def f_Sp_firstPartLeft (κ : Ko) (a0 : Nat) (st : AS) : Int32 := (gat (gi st (a0 + 3)) 21 (0 : Int32))
theorem t_Sp_firstPartLeft {κ : Ko} {F : Int32 → AS → Prop} {a0 : Nat} {st : AS} {v : Int32} (l_a0 : ly κ a0 = (10, 7)) (h : f_Sp_firstPartLeft κ a0 st = v) (k : F v st) : C κ M_Sp_firstPartLeft [.ref a0] st (RI F) := by
  unfold f_Sp_firstPartLeft at h
  refine e_Sp_firstPartLeft ?_
  refine b_Sp_firstPartLeft_0 (l_a0 := l_a0) (k1 := t_X_at (co10 3 50 21 rfl l_a0) rfl ?_)
  exact b_Sp_firstPartLeft_8  (k1 := lfIPT h k)
noncomputable def f_Sp_foldsLeft (κ : Ko) (a0 : Nat) (st : AS) : Int32 := (gi st a0 5)
theorem t_Sp_foldsLeft {κ : Ko} {F : Int32 → AS → Prop} {a0 : Nat} {st : AS} {v : Int32} (l_a0 : ly κ a0 = (10, 7)) (h : f_Sp_foldsLeft κ a0 st = v) (k : F v st) : C κ M_Sp_foldsLeft [.ref a0] st (RI F) := by
  unfold f_Sp_foldsLeft at h
  refine e_Sp_foldsLeft ?_
  exact b_Sp_foldsLeft_0 (l_a0 := l_a0) (k1 := lfIPT h k)
noncomputable def f_Sp_stepsTaken (κ : Ko) (a0 : Nat) (st : AS) : Int32 := (gi st a0 6)
theorem t_Sp_stepsTaken {κ : Ko} {F : Int32 → AS → Prop} {a0 : Nat} {st : AS} {v : Int32} (l_a0 : ly κ a0 = (10, 7)) (h : f_Sp_stepsTaken κ a0 st = v) (k : F v st) : C κ M_Sp_stepsTaken [.ref a0] st (RI F) := by
  unfold f_Sp_stepsTaken at h
  refine e_Sp_stepsTaken ?_
  exact b_Sp_stepsTaken_0 (l_a0 := l_a0) (k1 := lfIPT h k)
noncomputable def f_Sp_foldCount (κ : Ko) (a0 : Nat) (st : AS) : Int32 := (gi st a0 2)
theorem t_Sp_foldCount {κ : Ko} {F : Int32 → AS → Prop} {a0 : Nat} {st : AS} {v : Int32} (l_a0 : ly κ a0 = (10, 7)) (h : f_Sp_foldCount κ a0 st = v) (k : F v st) : C κ M_Sp_foldCount [.ref a0] st (RI F) := by
  unfold f_Sp_foldCount at h
  refine e_Sp_foldCount ?_
  exact b_Sp_foldCount_0 (l_a0 := l_a0) (k1 := lfIPT h k)
noncomputable def f_X_strip (κ : Ko) (a0 : Nat) (x1 : Int32) (x2 : Int32) (st : AS) : Option (Int32 × AS) := bnd (f_X_stripAt κ a0 x1 st) (fun v1 => nul v1 (some (((-2) : Int32), st)) (fun c2 => grd (ly κ c2 = (10, 7)) (bnd (f_Sp_reduce κ c2 ((-1) : Int32) st) (fun s4 => if x2 = 0 then some ((f_Sp_foldCount κ c2 s4), s4) else if x2 = 1 then some ((if (f_Sp_foldsLeft κ c2 s4) = 0 then (1 : Int32) else (0 : Int32) : Int32), s4) else if x2 = 2 then some ((f_Sp_stepsTaken κ c2 s4), s4) else if x2 = 3 then some ((f_Sp_foldsLeft κ c2 s4), s4) else if x2 = 4 then some ((f_Sp_firstPartLeft κ c2 s4), s4) else if x2 = 5 then bnd2 (f_Sp_deepestFold κ c2 s4) (fun v5 s6 => some (v5, s6)) else some (((-2) : Int32), s4)))))
theorem t_X_strip {κ : Ko} {F : Int32 → AS → Prop} {a0 : Nat} {x1 : Int32} {x2 : Int32} {st : AS} {v : Int32} {s' : AS} (l_a0 : ly κ a0 = (11, 15)) (h : f_X_strip κ a0 x1 x2 st = some (v, s')) (k : F v s') : C κ M_X_strip [.ref a0, .int x1, .int x2] st (RI F) := by
  unfold f_X_strip at h
  refine e_X_strip ?_
  obtain ⟨v1, h7, h⟩ := bnd_some h
  refine b_X_strip_0 (l_a0 := l_a0) (k1 := t_X_stripAt l_a0 h7 ?_)
  rcases v1 with _ | c2
  · replace h := nul_n h
    exact b_X_strip_5_N  (k1 := lfI h k)
  · obtain ⟨l3, h⟩ := grd_some (nul_s h)
    obtain ⟨s4, h8, h⟩ := bnd_some h
    refine b_X_strip_5_R (l_c0 := l3) (k1 := t_Sp_reduce l3 h8 ?_)
    refine b_X_strip_18  (k1 := fun e9 => ?_) (k2 := fun e9 => ?_) (k3 := fun e9 => ?_) (k4 := fun e9 => ?_) (k5 := fun e9 => ?_) (k6 := fun e9 => ?_) (k7 := fun e9 => ?_)
    · replace h := if_t e9 h
      refine b_X_strip_56 (l_a3 := l3) (k1 := t_Sp_foldCount l3 rfl ?_)
      exact b_X_strip_60  (k1 := lfI h k)
    · replace h := if_f (fun z => by rw [z] at e9; exact absurd e9 (by decide)) h
      replace h := if_t e9 h
      refine b_X_strip_61 (l_a3 := l3) (k1 := t_Sp_foldsLeft l3 rfl ?_)
      have K11 : (RI F) (some (.int (if (f_Sp_foldsLeft κ c2 s4) = 0 then (1 : Int32) else (0 : Int32) : Int32))) s4 := lfI h k
      refine b_X_strip_65  (k1 := fun e12 => ?_) (k2 := fun e12 => ?_)
      · exact b_X_strip_72  (k1 := (ite_f (P := fun z => (RI F) (some (.int z)) s4) e12 K11))
      · exact b_X_strip_68  (k1 := (ite_t (P := fun z => (RI F) (some (.int z)) s4) e12 K11))
    · replace h := if_f (fun z => by rw [z] at e9; exact absurd e9 (by decide)) h
      replace h := if_f (fun z => by rw [z] at e9; exact absurd e9 (by decide)) h
      replace h := if_t e9 h
      refine b_X_strip_74 (l_a3 := l3) (k1 := t_Sp_stepsTaken l3 rfl ?_)
      exact b_X_strip_78  (k1 := lfI h k)
    · replace h := if_f (fun z => by rw [z] at e9; exact absurd e9 (by decide)) h
      replace h := if_f (fun z => by rw [z] at e9; exact absurd e9 (by decide)) h
      replace h := if_f (fun z => by rw [z] at e9; exact absurd e9 (by decide)) h
      replace h := if_t e9 h
      refine b_X_strip_79 (l_a3 := l3) (k1 := t_Sp_foldsLeft l3 rfl ?_)
      exact b_X_strip_83  (k1 := lfI h k)
    · replace h := if_f (fun z => by rw [z] at e9; exact absurd e9 (by decide)) h
      replace h := if_f (fun z => by rw [z] at e9; exact absurd e9 (by decide)) h
      replace h := if_f (fun z => by rw [z] at e9; exact absurd e9 (by decide)) h
      replace h := if_f (fun z => by rw [z] at e9; exact absurd e9 (by decide)) h
      replace h := if_t e9 h
      refine b_X_strip_84 (l_a3 := l3) (k1 := t_Sp_firstPartLeft l3 rfl ?_)
      exact b_X_strip_88  (k1 := lfI h k)
    · replace h := if_f (fun z => by rw [z] at e9; exact absurd e9 (by decide)) h
      replace h := if_f (fun z => by rw [z] at e9; exact absurd e9 (by decide)) h
      replace h := if_f (fun z => by rw [z] at e9; exact absurd e9 (by decide)) h
      replace h := if_f (fun z => by rw [z] at e9; exact absurd e9 (by decide)) h
      replace h := if_f (fun z => by rw [z] at e9; exact absurd e9 (by decide)) h
      replace h := if_t e9 h
      obtain ⟨v5, s6, h13, h⟩ := bnd2_some h
      refine b_X_strip_89 (l_a3 := l3) (k1 := t_Sp_deepestFold l3 h13 ?_)
      exact b_X_strip_93  (k1 := lfI h k)
    · replace h := if_f (fun z => by rw [z] at e9; exact absurd e9 (by decide)) h
      replace h := if_f (fun z => by rw [z] at e9; exact absurd e9 (by decide)) h
      replace h := if_f (fun z => by rw [z] at e9; exact absurd e9 (by decide)) h
      replace h := if_f (fun z => by rw [z] at e9; exact absurd e9 (by decide)) h
      replace h := if_f (fun z => by rw [z] at e9; exact absurd e9 (by decide)) h
      replace h := if_f (fun z => by rw [z] at e9; exact absurd e9 (by decide)) h
      exact b_X_strip_94  (k1 := lfI h k)
noncomputable def L_X_halvings_2 (κ : Ko) (st : AS) : Nat → Int32 → Int32 → Option Int32
  | 0, _, _ => none
  | d + 1, x0, x1 => if 30 ≤ x1 then some x1 else if x0 ≤ (1 <<< ((x1 : Int32) &&& 31)) then some x1 else L_X_halvings_2 κ st  d x0 (x1 + 1)
noncomputable def f_X_halvings (κ : Ko) (x0 : Int32) (st : AS) : Option Int32 := L_X_halvings_2 κ st  FU x0 (0 : Int32)
theorem l_X_halvings_2 {κ : Ko} {F : Int32 → AS → Prop} {v : Int32} {st : AS} (k : F v st) : ∀ (d : Nat) (x0 : Int32) (x1 : Int32), L_X_halvings_2 κ st  d x0 x1 = some v → V κ M_X_halvings (RI F) 2 [some (.int x0), some (.int x1)] [] st := by
  intro d
  induction d with
  | zero =>
    intro x0 x1 h
    exact nn_some h
  | succ d ih =>
    intro x0 x1 h
    rw [L_X_halvings_2] at h
    refine b_X_halvings_2  (k1 := fun e1 => ?_) (k2 := fun e1 => ?_)
    · replace h := if_t e1 h
      exact b_X_halvings_21  (k1 := lfIP h k)
    · replace h := if_f e1 h
      refine b_X_halvings_8  (k1 := fun e2 => ?_) (k2 := fun e2 => ?_)
      · replace h := if_t e2 h
        exact b_X_halvings_21  (k1 := lfIP h k)
      · replace h := if_f e2 h
        refine b_X_halvings_15  (k1 := ?_)
        exact ih _ _  h
theorem t_X_halvings {κ : Ko} {F : Int32 → AS → Prop} {x0 : Int32} {st : AS} {v : Int32} (h : f_X_halvings κ x0 st = some v) (k : F v st) : C κ M_X_halvings [.int x0] st (RI F) := by
  unfold f_X_halvings at h
  refine e_X_halvings ?_
  refine b_X_halvings_0  (k1 := ?_)
  refine l_X_halvings_2 k FU _ _  h
noncomputable def f_X_halves (κ : Ko) (a0 : Nat) (x1 : Int32) (x2 : Int32) (st : AS) : Option Int32 := jn (some ((-1) : Int32)) fun j3 => if (wi ((x1 : Int32).toInt64) (1 : Int64) (999 : Int64)) = 0 then j3 else if (wi ((x2 : Int32).toInt64) (1 : Int64) (999 : Int64)) = 0 then j3 else bnd (f_X_halvings κ x1 st) (fun v1 => bnd (f_X_halvings κ x2 st) (fun v2 => some (v1 + v2)))
theorem t_X_halves {κ : Ko} {F : Int32 → AS → Prop} {a0 : Nat} {x1 : Int32} {x2 : Int32} {st : AS} {v : Int32} (l_a0 : ly κ a0 = (11, 15)) (h : f_X_halves κ a0 x1 x2 st = some v) (k : F v st) : C κ M_X_halves [.ref a0, .int x1, .int x2] st (RI F) := by
  unfold f_X_halves at h
  refine e_X_halves ?_
  refine b_X_halves_0  (k1 := t_X_within  rfl ?_)
  obtain ⟨j3, hdj3, h⟩ := jn_some h
  have hj3 : j3 = some v → V κ M_X_halves (RI F) 24 [none, none, none] [] st := by
    intro h
    rw [hdj3] at h
    exact b_X_halves_24  (k1 := lfIP h k)
  clear hdj3
  refine b_X_halves_9  (k1 := fun e4 => ?_) (k2 := fun e4 => ?_)
  · replace h := if_t e4 h
    exact hj3  h
  · replace h := if_f e4 h
    refine b_X_halves_12  (k1 := t_X_within  rfl ?_)
    refine b_X_halves_21  (k1 := fun e5 => ?_) (k2 := fun e5 => ?_)
    · replace h := if_f e5 h
      obtain ⟨v1, h6, h⟩ := bnd_some h
      refine b_X_halves_26  (k1 := t_X_halvings  h6 ?_)
      obtain ⟨v2, h7, h⟩ := bnd_some h
      refine b_X_halves_30  (k1 := t_X_halvings  h7 ?_)
      exact b_X_halves_34  (k1 := lfIP h k)
    · replace h := if_t e5 h
      exact hj3  h
noncomputable def f_Sh_areBeside (κ : Ko) (a0 : Nat) (x1 : Int32) (x2 : Int32) (st : AS) : Option Int32 := bnd (f_Sh_facetPart κ a0 x1 (0 : Int32) st) (fun v1 => bnd (f_Sh_facetPart κ a0 x1 (2 : Int32) st) (fun v2 => bnd (f_Sh_facetPart κ a0 x1 (1 : Int32) st) (fun v3 => bnd (f_Sh_facetPart κ a0 x1 (3 : Int32) st) (fun v4 => bnd (f_Sh_facetPart κ a0 x2 (0 : Int32) st) (fun v5 => bnd (f_Sh_facetPart κ a0 x2 (2 : Int32) st) (fun v6 => bnd (f_Sh_facetPart κ a0 x2 (1 : Int32) st) (fun v7 => bnd (f_Sh_facetPart κ a0 x2 (3 : Int32) st) (fun v8 => jn (fun (v12 : Int32) (v13 : Int32) => jn (fun (v16 : Int32) => jn (fun (v19 : Int32) => jn (fun (v22 : Int32) => jn (some (1 : Int32)) fun j25 => jn (jn (some (0 : Int32)) fun j24 => if v16 = 0 then j24 else if v22 = 0 then j24 else j25) fun j23 => if v13 = 0 then j23 else if v19 = 0 then j23 else j25) fun j21 => jn (j21 (0 : Int32)) fun j20 => if (v5 + v6) ≤ v1 then j20 else if (v1 + v2) ≤ v5 then j20 else j21 (1 : Int32)) fun j18 => jn (j18 (0 : Int32)) fun j17 => if v12 ≤ v3 then j17 else if (v3 + v4) ≤ v7 then j17 else j18 (1 : Int32)) fun j15 => jn (j15 (1 : Int32)) fun j14 => if (v3 + v4) = v7 then j14 else if v12 = v3 then j14 else j15 (0 : Int32)) fun j11 => jn (fun (v10 : Int32) => j11 v10 (1 : Int32)) fun j9 => if (v1 + v2) = v5 then j9 (v7 + v8) else if (v5 + v6) = v1 then j9 (v7 + v8) else j11 (v7 + v8) (0 : Int32)))))))))
theorem t_Sh_areBeside {κ : Ko} {F : Int32 → AS → Prop} {a0 : Nat} {x1 : Int32} {x2 : Int32} {st : AS} {v : Int32} (l_a0 : ly κ a0 = (8, 14)) (h : f_Sh_areBeside κ a0 x1 x2 st = some v) (k : F v st) : C κ M_Sh_areBeside [.ref a0, .int x1, .int x2] st (RI F) := by
  unfold f_Sh_areBeside at h
  refine e_Sh_areBeside ?_
  obtain ⟨v1, h26, h⟩ := bnd_some h
  refine b_Sh_areBeside_0 (l_a0 := l_a0) (k1 := t_Sh_facetPart l_a0 h26 ?_)
  obtain ⟨v2, h27, h⟩ := bnd_some h
  refine b_Sh_areBeside_6 (l_a0 := l_a0) (k1 := t_Sh_facetPart l_a0 h27 ?_)
  obtain ⟨v3, h28, h⟩ := bnd_some h
  refine b_Sh_areBeside_14 (l_a0 := l_a0) (k1 := t_Sh_facetPart l_a0 h28 ?_)
  obtain ⟨v4, h29, h⟩ := bnd_some h
  refine b_Sh_areBeside_23 (l_a0 := l_a0) (k1 := t_Sh_facetPart l_a0 h29 ?_)
  obtain ⟨v5, h30, h⟩ := bnd_some h
  refine b_Sh_areBeside_33 (l_a0 := l_a0) (k1 := t_Sh_facetPart l_a0 h30 ?_)
  obtain ⟨v6, h31, h⟩ := bnd_some h
  refine b_Sh_areBeside_42 (l_a0 := l_a0) (k1 := t_Sh_facetPart l_a0 h31 ?_)
  obtain ⟨v7, h32, h⟩ := bnd_some h
  refine b_Sh_areBeside_52 (l_a0 := l_a0) (k1 := t_Sh_facetPart l_a0 h32 ?_)
  obtain ⟨v8, h33, h⟩ := bnd_some h
  refine b_Sh_areBeside_61 (l_a0 := l_a0) (k1 := t_Sh_facetPart l_a0 h33 ?_)
  obtain ⟨j11, hdj11, h⟩ := jn_some h
  have hj11 : ∀ (v12 : Int32) (v13 : Int32), j11 v12 v13 = some v → V κ M_Sh_areBeside (RI F) 92 [none, none, none, some (.int v1), some (.int (v1 + v2)), some (.int v3), some (.int (v3 + v4)), some (.int v5), some (.int (v5 + v6)), some (.int v7), some (.int v12), none, none, none, none] [.int v13] st := by
    intro v12 v13 h
    rw [hdj11] at h
    obtain ⟨j15, hdj15, h⟩ := jn_some h
    have hj15 : ∀ (v16 : Int32), j15 v16 = some v → V κ M_Sh_areBeside (RI F) 113 [none, none, none, some (.int v1), some (.int (v1 + v2)), some (.int v3), some (.int (v3 + v4)), some (.int v5), some (.int (v5 + v6)), some (.int v7), some (.int v12), some (.int v13), none, none, none] [.int v16] st := by
      intro v16 h
      rw [hdj15] at h
      obtain ⟨j18, hdj18, h⟩ := jn_some h
      have hj18 : ∀ (v19 : Int32), j18 v19 = some v → V κ M_Sh_areBeside (RI F) 134 [none, none, none, some (.int v1), some (.int (v1 + v2)), none, none, some (.int v5), some (.int (v5 + v6)), none, none, some (.int v13), some (.int v16), none, none] [.int v19] st := by
        intro v19 h
        rw [hdj18] at h
        obtain ⟨j21, hdj21, h⟩ := jn_some h
        have hj21 : ∀ (v22 : Int32), j21 v22 = some v → V κ M_Sh_areBeside (RI F) 154 [none, none, none, none, none, none, none, none, none, none, none, some (.int v13), some (.int v16), some (.int v19), none] [.int v22] st := by
          intro v22 h
          rw [hdj21] at h
          obtain ⟨j25, hdj25, h⟩ := jn_some h
          have hj25 : j25 = some v → V κ M_Sh_areBeside (RI F) 176 [none, none, none, none, none, none, none, none, none, none, none, none, none, none, none] [] st := by
            intro h
            rw [hdj25] at h
            exact b_Sh_areBeside_176  (k1 := lfIP h k)
          clear hdj25
          obtain ⟨j23, hdj23, h⟩ := jn_some h
          have hj23 : j23 = some v → V κ M_Sh_areBeside (RI F) 166 [none, none, none, none, none, none, none, none, none, none, none, none, some (.int v16), none, some (.int v22)] [] st := by
            intro h
            rw [hdj23] at h
            obtain ⟨j24, hdj24, h⟩ := jn_some h
            have hj24 : j24 = some v → V κ M_Sh_areBeside (RI F) 180 [none, none, none, none, none, none, none, none, none, none, none, none, none, none, none] [] st := by
              intro h
              rw [hdj24] at h
              exact b_Sh_areBeside_180  (k1 := lfIP h k)
            clear hdj24
            refine b_Sh_areBeside_166  (k1 := fun e34 => ?_) (k2 := fun e34 => ?_)
            · replace h := if_t e34 h
              exact hj24  h
            · replace h := if_f e34 h
              refine b_Sh_areBeside_171  (k1 := fun e35 => ?_) (k2 := fun e35 => ?_)
              · replace h := if_t e35 h
                exact hj24  h
              · replace h := if_f e35 h
                exact hj25  h
          clear hdj23
          refine b_Sh_areBeside_154  (k1 := fun e36 => ?_) (k2 := fun e36 => ?_)
          · replace h := if_t e36 h
            exact hj23  h
          · replace h := if_f e36 h
            refine b_Sh_areBeside_161  (k1 := fun e37 => ?_) (k2 := fun e37 => ?_)
            · replace h := if_f e37 h
              exact hj25  h
            · replace h := if_t e37 h
              exact hj23  h
        clear hdj21
        obtain ⟨j20, hdj20, h⟩ := jn_some h
        have hj20 : j20 = some v → V κ M_Sh_areBeside (RI F) 153 [none, none, none, none, none, none, none, none, none, none, none, some (.int v13), some (.int v16), some (.int v19), none] [] st := by
          intro h
          rw [hdj20] at h
          refine b_Sh_areBeside_153  (k1 := ?_)
          exact hj21 _  h
        clear hdj20
        refine b_Sh_areBeside_134  (k1 := fun e38 => ?_) (k2 := fun e38 => ?_)
        · replace h := if_t e38 h
          exact hj20  h
        · replace h := if_f e38 h
          refine b_Sh_areBeside_142  (k1 := fun e39 => ?_) (k2 := fun e39 => ?_)
          · replace h := if_t e39 h
            exact hj20  h
          · replace h := if_f e39 h
            refine b_Sh_areBeside_149  (k1 := ?_)
            exact hj21 _  h
      clear hdj18
      obtain ⟨j17, hdj17, h⟩ := jn_some h
      have hj17 : j17 = some v → V κ M_Sh_areBeside (RI F) 133 [none, none, none, some (.int v1), some (.int (v1 + v2)), none, none, some (.int v5), some (.int (v5 + v6)), none, none, some (.int v13), some (.int v16), none, none] [] st := by
        intro h
        rw [hdj17] at h
        refine b_Sh_areBeside_133  (k1 := ?_)
        exact hj18 _  h
      clear hdj17
      refine b_Sh_areBeside_113  (k1 := fun e40 => ?_) (k2 := fun e40 => ?_)
      · replace h := if_t e40 h
        exact hj17  h
      · replace h := if_f e40 h
        refine b_Sh_areBeside_122  (k1 := fun e41 => ?_) (k2 := fun e41 => ?_)
        · replace h := if_t e41 h
          exact hj17  h
        · replace h := if_f e41 h
          refine b_Sh_areBeside_129  (k1 := ?_)
          exact hj18 _  h
    clear hdj15
    obtain ⟨j14, hdj14, h⟩ := jn_some h
    have hj14 : j14 = some v → V κ M_Sh_areBeside (RI F) 108 [none, none, none, some (.int v1), some (.int (v1 + v2)), some (.int v3), some (.int (v3 + v4)), some (.int v5), some (.int (v5 + v6)), some (.int v7), some (.int v12), some (.int v13), none, none, none] [] st := by
      intro h
      rw [hdj14] at h
      refine b_Sh_areBeside_108  (k1 := ?_)
      exact hj15 _  h
    clear hdj14
    refine b_Sh_areBeside_92  (k1 := fun e42 => ?_) (k2 := fun e42 => ?_)
    · replace h := if_t e42 h
      exact hj14  h
    · replace h := if_f e42 h
      refine b_Sh_areBeside_101  (k1 := fun e43 => ?_) (k2 := fun e43 => ?_)
      · replace h := if_f e43 h
        refine b_Sh_areBeside_112  (k1 := ?_)
        exact hj15 _  h
      · replace h := if_t e43 h
        exact hj14  h
  clear hdj11
  obtain ⟨j9, hdj9, h⟩ := jn_some h
  have hj9 : ∀ (v10 : Int32), j9 v10 = some v → V κ M_Sh_areBeside (RI F) 87 [none, none, none, some (.int v1), some (.int (v1 + v2)), some (.int v3), some (.int (v3 + v4)), some (.int v5), some (.int (v5 + v6)), some (.int v7), some (.int v10), none, none, none, none] [] st := by
    intro v10 h
    rw [hdj9] at h
    refine b_Sh_areBeside_87  (k1 := ?_)
    exact hj11 _ _  h
  clear hdj9
  refine b_Sh_areBeside_71  (k1 := fun e44 => ?_) (k2 := fun e44 => ?_)
  · replace h := if_t e44 h
    exact hj9 _  h
  · replace h := if_f e44 h
    refine b_Sh_areBeside_81  (k1 := fun e45 => ?_) (k2 := fun e45 => ?_)
    · replace h := if_f e45 h
      refine b_Sh_areBeside_91  (k1 := ?_)
      exact hj11 _ _  h
    · replace h := if_t e45 h
      exact hj9 _  h
noncomputable def L_Nb_find_32 (κ : Ko) (k_76 : Nat → Nat → Int32 → Int32 → AS → Option AS) : Nat → Nat → Nat → Int32 → Int32 → Int32 → AS → Option AS
  | 0, _, _, _, _, _, _ => none
  | d + 1, a0, a1, x2, x3, x4, st => if (gi st a0 4) ≤ x4 then k_76 a0 a1 x2 x3 st else jn (L_Nb_find_32 κ k_76 d a0 a1 x2 x3 (x4 + 1) st) fun j2 => if x4 = x3 then j2 else bnd (f_Sh_areBeside κ a1 x3 x4 st) (fun v1 => if v1 = 0 then j2 else L_Nb_find_32 κ k_76 d a0 a1 (x2 + 1) x3 (x4 + 1) (gput st (a0 + 2) 1200 x2 x4))
noncomputable def L_Nb_find_12 (κ : Ko) (k_82 : Nat → Int32 → AS → Option AS) : Nat → Nat → Nat → Int32 → Int32 → AS → Option AS
  | 0, _, _, _, _, _ => none
  | d + 1, a0, a1, x2, x3, st => if (gi st a0 4) ≤ x3 then k_82 a0 x2 st else L_Nb_find_32 κ (fun (v7 : Nat) (v9 : Nat) (v11 : Int32) (v12 : Int32) (s13 : AS) => L_Nb_find_12 κ k_82 d v7 v9 v11 (v12 + 1) s13) FU a0 a1 x2 x3 (0 : Int32) (gput st (a0 + 1) 201 x3 x2)
noncomputable def f_Nb_find (κ : Ko) (a0 : Nat) (a1 : Nat) (st : AS) : Option AS := L_Nb_find_12 κ (fun (v15 : Nat) (v17 : Int32) (s18 : AS) => some (gput s18 (v15 + 1) 201 (gi s18 v15 4) v17)) FU a0 a1 (0 : Int32) (0 : Int32) (ui st a0 4 (f_Sh_facetCount κ a1 st))
theorem l_Nb_find_32 {κ : Ko} {F : AS → Prop} {s' : AS} (k : F s') {k_76 : Nat → Nat → Int32 → Int32 → AS → Option AS} (hk_76 : ∀ (a0 : Nat) (a1 : Nat) (x2 : Int32) (x3 : Int32) (st : AS), ly κ a0 = (4, 5) → ly κ a1 = (8, 14) → k_76 a0 a1 x2 x3 st = some s' → V κ M_Nb_find (RV F) 76 [some (.ref a0), some (.ref a1), some (.int x2), some (.int x3), none] [] st) : ∀ (d : Nat) (a0 : Nat) (a1 : Nat) (x2 : Int32) (x3 : Int32) (x4 : Int32) (st : AS), ly κ a0 = (4, 5) → ly κ a1 = (8, 14) → L_Nb_find_32 κ k_76 d a0 a1 x2 x3 x4 st = some s' → V κ M_Nb_find (RV F) 32 [some (.ref a0), some (.ref a1), some (.int x2), some (.int x3), some (.int x4)] [] st := by
  intro d
  induction d with
  | zero =>
    intro a0 a1 x2 x3 x4 st l_a0 l_a1 h
    exact nn_some h
  | succ d ih =>
    intro a0 a1 x2 x3 x4 st l_a0 l_a1 h
    rw [L_Nb_find_32] at h
    refine b_Nb_find_32 (l_a0 := l_a0) (k1 := fun e3 => ?_) (k2 := fun e3 => ?_)
    · replace h := if_t e3 h
      exact hk_76 _ _ _ _ _ l_a0 l_a1 h
    · replace h := if_f e3 h
      obtain ⟨j2, hdj2, h⟩ := jn_some h
      have hj2 : j2 = some s' → V κ M_Nb_find (RV F) 70 [some (.ref a0), some (.ref a1), some (.int x2), some (.int x3), some (.int x4)] [] st := by
        intro h
        rw [hdj2] at h
        refine b_Nb_find_70  (k1 := ?_)
        exact ih _ _ _ _ _ _ l_a0 l_a1 h
      clear hdj2
      refine b_Nb_find_41  (k1 := fun e4 => ?_) (k2 := fun e4 => ?_)
      · replace h := if_t e4 h
        exact hj2  h
      · replace h := if_f e4 h
        obtain ⟨v1, h5, h⟩ := bnd_some h
        refine b_Nb_find_47 (l_a1 := l_a1) (k1 := t_Sh_areBeside l_a1 h5 ?_)
        refine b_Nb_find_54  (k1 := fun e6 => ?_) (k2 := fun e6 => ?_)
        · replace h := if_t e6 h
          exact hj2  h
        · replace h := if_f e6 h
          refine b_Nb_find_57 (l_a0 := l_a0) (k1 := t_X_put (co4 2 50 1200 rfl l_a0) rfl ?_)
          refine b_Nb_find_67  (k1 := ?_)
          exact ih _ _ _ _ _ _ l_a0 l_a1 h
theorem l_Nb_find_12 {κ : Ko} {F : AS → Prop} {s' : AS} (k : F s') {k_82 : Nat → Int32 → AS → Option AS} (hk_82 : ∀ (a0 : Nat) (x2 : Int32) (st : AS), ly κ a0 = (4, 5) → k_82 a0 x2 st = some s' → V κ M_Nb_find (RV F) 82 [some (.ref a0), none, some (.int x2), none, none] [] st) : ∀ (d : Nat) (a0 : Nat) (a1 : Nat) (x2 : Int32) (x3 : Int32) (st : AS), ly κ a0 = (4, 5) → ly κ a1 = (8, 14) → L_Nb_find_12 κ k_82 d a0 a1 x2 x3 st = some s' → V κ M_Nb_find (RV F) 12 [some (.ref a0), some (.ref a1), some (.int x2), some (.int x3), none] [] st := by
  intro d
  induction d with
  | zero =>
    intro a0 a1 x2 x3 st l_a0 l_a1 h
    exact nn_some h
  | succ d ih =>
    intro a0 a1 x2 x3 st l_a0 l_a1 h
    rw [L_Nb_find_12] at h
    refine b_Nb_find_12 (l_a0 := l_a0) (k1 := fun e14 => ?_) (k2 := fun e14 => ?_)
    · replace h := if_t e14 h
      exact hk_82 _ _ _ l_a0 h
    · replace h := if_f e14 h
      refine b_Nb_find_20 (l_a0 := l_a0) (k1 := t_X_put (co4 1 50 201 rfl l_a0) rfl ?_)
      refine b_Nb_find_29  (k1 := ?_)
      refine l_Nb_find_32 k ?_ FU _ _ _ _ _ _ l_a0 l_a1 h
      · intro v7 v9 v11 v12 s13 l8 l10 h
        refine b_Nb_find_76  (k1 := ?_)
        exact ih _ _ _ _ _ l8 l10 h
theorem t_Nb_find {κ : Ko} {F : AS → Prop} {a0 : Nat} {a1 : Nat} {st : AS} {s' : AS} (l_a0 : ly κ a0 = (4, 5)) (l_a1 : ly κ a1 = (8, 14)) (h : f_Nb_find κ a0 a1 st = some s') (k : F s') : C κ M_Nb_find [.ref a0, .ref a1] st (RV F) := by
  unfold f_Nb_find at h
  refine e_Nb_find ?_
  refine b_Nb_find_0 (l_a1 := l_a1) (k1 := t_Sh_facetCount l_a1 rfl ?_)
  refine b_Nb_find_5 (l_c0 := l_a0) (k1 := ?_)
  refine l_Nb_find_12 k ?_ FU _ _ _ _ _ l_a0 l_a1 h
  · intro v15 v17 s18 l16 h
    refine b_Nb_find_82 (l_a0 := l16) (k1 := t_X_put (co4 1 50 201 rfl l16) rfl ?_)
    exact b_Nb_find_94  (k1 := lfV h k)
noncomputable def f_Nb_countOf (κ : Ko) (a0 : Nat) (x1 : Int32) (st : AS) : Int32 := ((gat (gi st (a0 + 1)) 201 (x1 + 1)) - (gat (gi st (a0 + 1)) 201 x1))
theorem t_Nb_countOf {κ : Ko} {F : Int32 → AS → Prop} {a0 : Nat} {x1 : Int32} {st : AS} {v : Int32} (l_a0 : ly κ a0 = (4, 5)) (h : f_Nb_countOf κ a0 x1 st = v) (k : F v st) : C κ M_Nb_countOf [.ref a0, .int x1] st (RI F) := by
  unfold f_Nb_countOf at h
  refine e_Nb_countOf ?_
  refine b_Nb_countOf_0 (l_a0 := l_a0) (k1 := t_X_at (co4 1 50 201 rfl l_a0) rfl ?_)
  refine b_Nb_countOf_10 (l_a0 := l_a0) (k1 := t_X_at (co4 1 50 201 rfl l_a0) rfl ?_)
  exact b_Nb_countOf_18  (k1 := lfIPT h k)
noncomputable def f_X_beside (κ : Ko) (a0 : Nat) (x1 : Int32) (x2 : Int32) (st : AS) : Option (Int32 × AS) := bnd (f_Pl_get κ (a0 + 21) x1 st) (fun v1 => nul v1 (some (((-1) : Int32), st)) (fun c2 => grd (ly κ c2 = (8, 14)) (if (wi ((x2 : Int32).toInt64) (0 : Int64) (((f_Sh_facetCount κ c2 st) - 1 : Int32).toInt64)) = 0 then some (((-1) : Int32), st) else bnd (f_Nb_find κ (a0 + 65) c2 st) (fun s4 => some ((f_Nb_countOf κ (a0 + 65) x2 s4), s4)))))
theorem t_X_beside {κ : Ko} {F : Int32 → AS → Prop} {a0 : Nat} {x1 : Int32} {x2 : Int32} {st : AS} {v : Int32} {s' : AS} (l_a0 : ly κ a0 = (11, 15)) (h : f_X_beside κ a0 x1 x2 st = some (v, s')) (k : F v s') : C κ M_X_beside [.ref a0, .int x1, .int x2] st (RI F) := by
  unfold f_X_beside at h
  refine e_X_beside ?_
  obtain ⟨v1, h5, h⟩ := bnd_some h
  refine b_X_beside_0 (l_a0 := l_a0) (k1 := t_Pl_get (co11 21 5 3 rfl l_a0) h5 ?_)
  rcases v1 with _ | c2
  · replace h := nul_n h
    exact b_X_beside_8_RN  (k1 := lfI h k)
  · obtain ⟨l3, h⟩ := grd_some (nul_s h)
    refine b_X_beside_8_RR (l_c0 := l3) (k1 := t_Sh_facetCount l3 rfl ?_)
    refine b_X_beside_20  (k1 := t_X_within  rfl ?_)
    refine b_X_beside_26  (k1 := fun e6 => ?_) (k2 := fun e6 => ?_)
    · replace h := if_f e6 h
      obtain ⟨s4, h7, h⟩ := bnd_some h
      refine b_X_beside_31 (l_a0 := l_a0) (k1 := t_Nb_find (co11 65 4 5 rfl l_a0) l3 h7 ?_)
      refine b_X_beside_39 (l_a0 := l_a0) (k1 := t_Nb_countOf (co11 65 4 5 rfl l_a0) rfl ?_)
      exact b_X_beside_47  (k1 := lfI h k)
    · replace h := if_t e6 h
      exact b_X_beside_29  (k1 := lfI h k)
noncomputable def L_Nb_richest_4 (κ : Ko) (st : AS) : Nat → Nat → Int32 → Int32 → Option Int32
  | 0, _, _, _ => none
  | d + 1, a0, x1, x2 => if (gi st a0 4) ≤ x2 then some x1 else L_Nb_richest_4 κ st  d a0 (if (f_Nb_countOf κ a0 x2 st) ≤ (f_Nb_countOf κ a0 x1 st) then x1 else x2 : Int32) (x2 + 1)
noncomputable def f_Nb_richest (κ : Ko) (a0 : Nat) (st : AS) : Option Int32 := L_Nb_richest_4 κ st  FU a0 (0 : Int32) (1 : Int32)
theorem l_Nb_richest_4 {κ : Ko} {F : Int32 → AS → Prop} {v : Int32} {st : AS} (k : F v st) : ∀ (d : Nat) (a0 : Nat) (x1 : Int32) (x2 : Int32), ly κ a0 = (4, 5) → L_Nb_richest_4 κ st  d a0 x1 x2 = some v → V κ M_Nb_richest (RI F) 4 [some (.ref a0), some (.int x1), some (.int x2)] [] st := by
  intro d
  induction d with
  | zero =>
    intro a0 x1 x2 l_a0 h
    exact nn_some h
  | succ d ih =>
    intro a0 x1 x2 l_a0 h
    rw [L_Nb_richest_4] at h
    refine b_Nb_richest_4 (l_a0 := l_a0) (k1 := fun e1 => ?_) (k2 := fun e1 => ?_)
    · replace h := if_t e1 h
      exact b_Nb_richest_33  (k1 := lfIP h k)
    · replace h := if_f e1 h
      refine b_Nb_richest_12 (l_a0 := l_a0) (k1 := t_Nb_countOf l_a0 rfl ?_)
      refine b_Nb_richest_17 (l_a0 := l_a0) (k1 := t_Nb_countOf l_a0 rfl ?_)
      have K3 : V κ M_Nb_richest (RI F) 4 [some (.ref a0), some (.int (if (f_Nb_countOf κ a0 x2 st) ≤ (f_Nb_countOf κ a0 x1 st) then x1 else x2 : Int32)), some (.int (x2 + 1))] [] st := by
        exact ih _ _ _ l_a0 h
      refine b_Nb_richest_22  (k1 := fun e4 => ?_) (k2 := fun e4 => ?_)
      · refine b_Nb_richest_27  (k1 := ?_)
        exact (ite_t (P := fun z => V κ M_Nb_richest (RI F) 4 [some (.ref a0), some (.int z), some (.int (x2 + 1))] [] st) e4 K3)
      · refine b_Nb_richest_25  (k1 := ?_)
        exact (ite_f (P := fun z => V κ M_Nb_richest (RI F) 4 [some (.ref a0), some (.int z), some (.int (x2 + 1))] [] st) e4 K3)
theorem t_Nb_richest {κ : Ko} {F : Int32 → AS → Prop} {a0 : Nat} {st : AS} {v : Int32} (l_a0 : ly κ a0 = (4, 5)) (h : f_Nb_richest κ a0 st = some v) (k : F v st) : C κ M_Nb_richest [.ref a0] st (RI F) := by
  unfold f_Nb_richest at h
  refine e_Nb_richest ?_
  refine b_Nb_richest_0  (k1 := ?_)
  refine l_Nb_richest_4 k FU _ _ _ l_a0 h
noncomputable def f_X_most (κ : Ko) (a0 : Nat) (x1 : Int32) (st : AS) : Option (Int32 × AS) := bnd (f_Pl_get κ (a0 + 21) x1 st) (fun v1 => nul v1 (some (((-1) : Int32), st)) (fun c2 => grd (ly κ c2 = (8, 14)) (bnd (f_Nb_find κ (a0 + 65) c2 st) (fun s4 => bnd (f_Nb_richest κ (a0 + 65) s4) (fun v5 => some (v5, s4))))))
theorem t_X_most {κ : Ko} {F : Int32 → AS → Prop} {a0 : Nat} {x1 : Int32} {st : AS} {v : Int32} {s' : AS} (l_a0 : ly κ a0 = (11, 15)) (h : f_X_most κ a0 x1 st = some (v, s')) (k : F v s') : C κ M_X_most [.ref a0, .int x1] st (RI F) := by
  unfold f_X_most at h
  refine e_X_most ?_
  obtain ⟨v1, h6, h⟩ := bnd_some h
  refine b_X_most_0 (l_a0 := l_a0) (k1 := t_Pl_get (co11 21 5 3 rfl l_a0) h6 ?_)
  rcases v1 with _ | c2
  · replace h := nul_n h
    exact b_X_most_8_RN  (k1 := lfI h k)
  · obtain ⟨l3, h⟩ := grd_some (nul_s h)
    obtain ⟨s4, h7, h⟩ := bnd_some h
    refine b_X_most_8_RR (l_a0 := l_a0) (k1 := t_Nb_find (co11 65 4 5 rfl l_a0) l3 h7 ?_)
    obtain ⟨v5, h8, h⟩ := bnd_some h
    refine b_X_most_23 (l_a0 := l_a0) (k1 := t_Nb_richest (co11 65 4 5 rfl l_a0) h8 ?_)
    exact b_X_most_30  (k1 := lfI h k)
noncomputable def L_Nb_walkFrom_2 (κ : Ko) (k_25 : Nat → Int32 → AS → Option (Int32 × AS)) : Nat → Nat → Int32 → Int32 → AS → Option (Int32 × AS)
  | 0, _, _, _, _ => none
  | d + 1, a0, x1, x2, st => if (gi st a0 4) ≤ x2 then k_25 a0 x1 st else L_Nb_walkFrom_2 κ k_25 d a0 x1 (x2 + 1) (gput st (a0 + 3) 200 x2 ((-1) : Int32))
noncomputable def L_Nb_walkFrom_96 (κ : Ko) (k_167 : Nat → Int32 → Int32 → Int32 → AS → Option (Int32 × AS)) : Nat → Nat → Int32 → Int32 → Int32 → Int32 → Int32 → AS → Option (Int32 × AS)
  | 0, _, _, _, _, _, _, _ => none
  | d + 1, a0, x2, x3, x4, x5, x6, st => if (gat (gi st (a0 + 1)) 201 (x5 + 1)) ≤ x6 then k_167 a0 x2 x3 x4 st else if (gat (gi st (a0 + 3)) 200 (gat (gi st (a0 + 2)) 1200 x6)) = ((-1)) then L_Nb_walkFrom_96 κ k_167 d a0 (x2 + 1) x3 x4 x5 (x6 + 1) (gput (gput st (a0 + 3) 200 (gat (gi st (a0 + 2)) 1200 x6) (x3 + 1)) (a0 + 4) 200 x2 (gat (gi st (a0 + 2)) 1200 x6)) else L_Nb_walkFrom_96 κ k_167 d a0 x2 x3 x4 x5 (x6 + 1) st
noncomputable def L_Nb_walkFrom_50 (κ : Ko) : Nat → Nat → Int32 → Int32 → Int32 → AS → Option (Int32 × AS)
  | 0, _, _, _, _, _ => none
  | d + 1, a0, x2, x3, x4, st => if x2 ≤ x4 then some (x3, st) else if 200 ≤ x4 then some (x3, st) else L_Nb_walkFrom_96 κ (fun (v8 : Nat) (v10 : Int32) (v11 : Int32) (v12 : Int32) (s13 : AS) => L_Nb_walkFrom_50 κ  d v8 v10 v11 (v12 + 1) s13) FU a0 x2 (gat (gi st (a0 + 3)) 200 (gat (gi st (a0 + 4)) 200 x4)) x4 (gat (gi st (a0 + 4)) 200 x4) (gat (gi st (a0 + 1)) 201 (gat (gi st (a0 + 4)) 200 x4)) st
noncomputable def f_Nb_walkFrom (κ : Ko) (a0 : Nat) (x1 : Int32) (st : AS) : Option (Int32 × AS) := L_Nb_walkFrom_2 κ (fun (v2 : Nat) (v4 : Int32) (s5 : AS) => L_Nb_walkFrom_50 κ  FU v2 (1 : Int32) (0 : Int32) (0 : Int32) (gput (gput s5 (v2 + 3) 200 v4 (0 : Int32)) (v2 + 4) 200 (0 : Int32) v4)) FU a0 x1 (0 : Int32) st
theorem l_Nb_walkFrom_2 {κ : Ko} {F : Int32 → AS → Prop} {v : Int32} {s' : AS} (k : F v s') {k_25 : Nat → Int32 → AS → Option (Int32 × AS)} (hk_25 : ∀ (a0 : Nat) (x1 : Int32) (st : AS), ly κ a0 = (4, 5) → k_25 a0 x1 st = some (v, s') → V κ M_Nb_walkFrom (RI F) 25 [some (.ref a0), some (.int x1), none, none, none, none, none, none] [] st) : ∀ (d : Nat) (a0 : Nat) (x1 : Int32) (x2 : Int32) (st : AS), ly κ a0 = (4, 5) → L_Nb_walkFrom_2 κ k_25 d a0 x1 x2 st = some (v, s') → V κ M_Nb_walkFrom (RI F) 2 [some (.ref a0), some (.int x1), some (.int x2), none, none, none, none, none] [] st := by
  intro d
  induction d with
  | zero =>
    intro a0 x1 x2 st l_a0 h
    exact nn_some h
  | succ d ih =>
    intro a0 x1 x2 st l_a0 h
    rw [L_Nb_walkFrom_2] at h
    refine b_Nb_walkFrom_2 (l_a0 := l_a0) (k1 := fun e1 => ?_) (k2 := fun e1 => ?_)
    · replace h := if_t e1 h
      exact hk_25 _ _ _ l_a0 h
    · replace h := if_f e1 h
      refine b_Nb_walkFrom_10 (l_a0 := l_a0) (k1 := t_X_put (co4 3 50 200 rfl l_a0) rfl ?_)
      refine b_Nb_walkFrom_19  (k1 := ?_)
      exact ih _ _ _ _ l_a0 h
theorem l_Nb_walkFrom_96 {κ : Ko} {F : Int32 → AS → Prop} {v : Int32} {s' : AS} (k : F v s') {k_167 : Nat → Int32 → Int32 → Int32 → AS → Option (Int32 × AS)} (hk_167 : ∀ (a0 : Nat) (x2 : Int32) (x3 : Int32) (x4 : Int32) (st : AS), ly κ a0 = (4, 5) → k_167 a0 x2 x3 x4 st = some (v, s') → V κ M_Nb_walkFrom (RI F) 167 [some (.ref a0), none, some (.int x2), some (.int x3), some (.int x4), none, none, none] [] st) : ∀ (d : Nat) (a0 : Nat) (x2 : Int32) (x3 : Int32) (x4 : Int32) (x5 : Int32) (x6 : Int32) (st : AS), ly κ a0 = (4, 5) → L_Nb_walkFrom_96 κ k_167 d a0 x2 x3 x4 x5 x6 st = some (v, s') → V κ M_Nb_walkFrom (RI F) 96 [some (.ref a0), none, some (.int x2), some (.int x3), some (.int x4), some (.int x5), some (.int x6), none] [] st := by
  intro d
  induction d with
  | zero =>
    intro a0 x2 x3 x4 x5 x6 st l_a0 h
    exact nn_some h
  | succ d ih =>
    intro a0 x2 x3 x4 x5 x6 st l_a0 h
    rw [L_Nb_walkFrom_96] at h
    refine b_Nb_walkFrom_96 (l_a0 := l_a0) (k1 := t_X_at (co4 1 50 201 rfl l_a0) rfl ?_)
    refine b_Nb_walkFrom_109  (k1 := fun e6 => ?_) (k2 := fun e6 => ?_)
    · replace h := if_t e6 h
      exact hk_167 _ _ _ _ _ l_a0 h
    · replace h := if_f e6 h
      refine b_Nb_walkFrom_112 (l_a0 := l_a0) (k1 := t_X_at (co4 2 50 1200 rfl l_a0) rfl ?_)
      refine b_Nb_walkFrom_121 (l_a0 := l_a0) (k1 := t_X_at (co4 3 50 200 rfl l_a0) rfl ?_)
      refine b_Nb_walkFrom_132  (k1 := fun e7 => ?_) (k2 := fun e7 => ?_)
      · replace h := if_f e7 h
        refine b_Nb_walkFrom_161  (k1 := ?_)
        exact ih _ _ _ _ _ _ _ l_a0 h
      · replace h := if_t e7 h
        refine b_Nb_walkFrom_136 (l_a0 := l_a0) (k1 := t_X_put (co4 3 50 200 rfl l_a0) rfl ?_)
        refine b_Nb_walkFrom_148 (l_a0 := l_a0) (k1 := t_X_put (co4 4 50 200 rfl l_a0) rfl ?_)
        refine b_Nb_walkFrom_158  (k1 := ?_)
        exact ih _ _ _ _ _ _ _ l_a0 h
theorem l_Nb_walkFrom_50 {κ : Ko} {F : Int32 → AS → Prop} {v : Int32} {s' : AS} (k : F v s') : ∀ (d : Nat) (a0 : Nat) (x2 : Int32) (x3 : Int32) (x4 : Int32) (st : AS), ly κ a0 = (4, 5) → L_Nb_walkFrom_50 κ  d a0 x2 x3 x4 st = some (v, s') → V κ M_Nb_walkFrom (RI F) 50 [some (.ref a0), none, some (.int x2), some (.int x3), some (.int x4), none, none, none] [] st := by
  intro d
  induction d with
  | zero =>
    intro a0 x2 x3 x4 st l_a0 h
    exact nn_some h
  | succ d ih =>
    intro a0 x2 x3 x4 st l_a0 h
    rw [L_Nb_walkFrom_50] at h
    refine b_Nb_walkFrom_50  (k1 := fun e14 => ?_) (k2 := fun e14 => ?_)
    · replace h := if_t e14 h
      exact b_Nb_walkFrom_173  (k1 := lfI h k)
    · replace h := if_f e14 h
      refine b_Nb_walkFrom_56  (k1 := fun e15 => ?_) (k2 := fun e15 => ?_)
      · replace h := if_t e15 h
        exact b_Nb_walkFrom_173  (k1 := lfI h k)
      · replace h := if_f e15 h
        refine b_Nb_walkFrom_64 (l_a0 := l_a0) (k1 := t_X_at (co4 4 50 200 rfl l_a0) rfl ?_)
        refine b_Nb_walkFrom_73 (l_a0 := l_a0) (k1 := t_X_at (co4 3 50 200 rfl l_a0) rfl ?_)
        refine b_Nb_walkFrom_84 (l_a0 := l_a0) (k1 := t_X_at (co4 1 50 201 rfl l_a0) rfl ?_)
        refine b_Nb_walkFrom_94  (k1 := ?_)
        refine l_Nb_walkFrom_96 k ?_ FU _ _ _ _ _ _ _ l_a0 h
        · intro v8 v10 v11 v12 s13 l9 h
          refine b_Nb_walkFrom_167  (k1 := ?_)
          exact ih _ _ _ _ _ l9 h
theorem t_Nb_walkFrom {κ : Ko} {F : Int32 → AS → Prop} {a0 : Nat} {x1 : Int32} {st : AS} {v : Int32} {s' : AS} (l_a0 : ly κ a0 = (4, 5)) (h : f_Nb_walkFrom κ a0 x1 st = some (v, s')) (k : F v s') : C κ M_Nb_walkFrom [.ref a0, .int x1] st (RI F) := by
  unfold f_Nb_walkFrom at h
  refine e_Nb_walkFrom ?_
  refine b_Nb_walkFrom_0  (k1 := ?_)
  refine l_Nb_walkFrom_2 k ?_ FU _ _ _ _ l_a0 h
  · intro v2 v4 s5 l3 h
    refine b_Nb_walkFrom_25 (l_a0 := l3) (k1 := t_X_put (co4 3 50 200 rfl l3) rfl ?_)
    refine b_Nb_walkFrom_34 (l_a0 := l3) (k1 := t_X_put (co4 4 50 200 rfl l3) rfl ?_)
    refine b_Nb_walkFrom_43  (k1 := ?_)
    refine l_Nb_walkFrom_50 k FU _ _ _ _ _ l3 h
noncomputable def f_Nb_stepsTo (κ : Ko) (a0 : Nat) (x1 : Int32) (st : AS) : Int32 := (gat (gi st (a0 + 3)) 200 x1)
theorem t_Nb_stepsTo {κ : Ko} {F : Int32 → AS → Prop} {a0 : Nat} {x1 : Int32} {st : AS} {v : Int32} (l_a0 : ly κ a0 = (4, 5)) (h : f_Nb_stepsTo κ a0 x1 st = v) (k : F v st) : C κ M_Nb_stepsTo [.ref a0, .int x1] st (RI F) := by
  unfold f_Nb_stepsTo at h
  refine e_Nb_stepsTo ?_
  refine b_Nb_stepsTo_0 (l_a0 := l_a0) (k1 := t_X_at (co4 3 50 200 rfl l_a0) rfl ?_)
  exact b_Nb_stepsTo_8  (k1 := lfIPT h k)
noncomputable def f_X_steps (κ : Ko) (a0 : Nat) (x1 : Int32) (x2 : Int32) (x3 : Int32) (st : AS) : Option (Int32 × AS) := bnd (f_Pl_get κ (a0 + 21) x1 st) (fun v1 => nul v1 (some (((-1) : Int32), st)) (fun c2 => grd (ly κ c2 = (8, 14)) (jn (some (((-1) : Int32), st)) fun j7 => if (wi ((x2 : Int32).toInt64) (0 : Int64) (((f_Sh_facetCount κ c2 st) - 1 : Int32).toInt64)) = 0 then j7 else if (wi ((x3 : Int32).toInt64) (0 : Int64) (((f_Sh_facetCount κ c2 st) - 1 : Int32).toInt64)) = 0 then j7 else bnd (f_Nb_find κ (a0 + 65) c2 st) (fun s4 => bnd2 (f_Nb_walkFrom κ (a0 + 65) x2 s4) (fun v5 s6 => some ((f_Nb_stepsTo κ (a0 + 65) x3 s6), s6))))))
theorem t_X_steps {κ : Ko} {F : Int32 → AS → Prop} {a0 : Nat} {x1 : Int32} {x2 : Int32} {x3 : Int32} {st : AS} {v : Int32} {s' : AS} (l_a0 : ly κ a0 = (11, 15)) (h : f_X_steps κ a0 x1 x2 x3 st = some (v, s')) (k : F v s') : C κ M_X_steps [.ref a0, .int x1, .int x2, .int x3] st (RI F) := by
  unfold f_X_steps at h
  refine e_X_steps ?_
  obtain ⟨v1, h8, h⟩ := bnd_some h
  refine b_X_steps_0 (l_a0 := l_a0) (k1 := t_Pl_get (co11 21 5 3 rfl l_a0) h8 ?_)
  rcases v1 with _ | c2
  · replace h := nul_n h
    exact b_X_steps_8_RN  (k1 := lfI h k)
  · obtain ⟨l3, h⟩ := grd_some (nul_s h)
    refine b_X_steps_8_RR (l_c0 := l3) (k1 := t_Sh_facetCount l3 rfl ?_)
    refine b_X_steps_23  (k1 := t_X_within  rfl ?_)
    obtain ⟨j7, hdj7, h⟩ := jn_some h
    have hj7 : j7 = some (v, s') → V κ M_X_steps (RI F) 49 [none, none, none, none, none] [] st := by
      intro h
      rw [hdj7] at h
      exact b_X_steps_49  (k1 := lfI h k)
    clear hdj7
    refine b_X_steps_29  (k1 := fun e9 => ?_) (k2 := fun e9 => ?_)
    · replace h := if_t e9 h
      exact hj7  h
    · replace h := if_f e9 h
      refine b_X_steps_32 (l_a4 := l3) (k1 := t_Sh_facetCount l3 rfl ?_)
      refine b_X_steps_40  (k1 := t_X_within  rfl ?_)
      refine b_X_steps_46  (k1 := fun e10 => ?_) (k2 := fun e10 => ?_)
      · replace h := if_f e10 h
        obtain ⟨s4, h11, h⟩ := bnd_some h
        refine b_X_steps_51 (l_a0 := l_a0) (k1 := t_Nb_find (co11 65 4 5 rfl l_a0) l3 h11 ?_)
        obtain ⟨v5, s6, h12, h⟩ := bnd2_some h
        refine b_X_steps_60 (l_a0 := l_a0) (k1 := t_Nb_walkFrom (co11 65 4 5 rfl l_a0) h12 ?_)
        refine b_X_steps_68 (l_a0 := l_a0) (k1 := t_Nb_stepsTo (co11 65 4 5 rfl l_a0) rfl ?_)
        exact b_X_steps_77  (k1 := lfI h k)
      · replace h := if_t e10 h
        exact hj7  h
noncomputable def L_Nb_middle_7 (κ : Ko) : Nat → Nat → Int32 → Int32 → Int32 → AS → Option (Int32 × AS)
  | 0, _, _, _, _, _ => none
  | d + 1, a0, x1, x2, x3, st => if (gi st a0 4) ≤ x3 then some (x1, st) else bnd2 (f_Nb_walkFrom κ a0 x3 st) (fun v1 s2 => L_Nb_middle_7 κ  d a0 (if x2 ≤ v1 then x1 else x3 : Int32) (if x2 ≤ v1 then x2 else v1 : Int32) (x3 + 1) s2)
noncomputable def f_Nb_middle (κ : Ko) (a0 : Nat) (st : AS) : Option (Int32 × AS) := L_Nb_middle_7 κ  FU a0 (0 : Int32) (2147483647 : Int32) (0 : Int32) st
theorem l_Nb_middle_7 {κ : Ko} {F : Int32 → AS → Prop} {v : Int32} {s' : AS} (k : F v s') : ∀ (d : Nat) (a0 : Nat) (x1 : Int32) (x2 : Int32) (x3 : Int32) (st : AS), ly κ a0 = (4, 5) → L_Nb_middle_7 κ  d a0 x1 x2 x3 st = some (v, s') → V κ M_Nb_middle (RI F) 7 [some (.ref a0), some (.int x1), some (.int x2), some (.int x3), none] [] st := by
  intro d
  induction d with
  | zero =>
    intro a0 x1 x2 x3 st l_a0 h
    exact nn_some h
  | succ d ih =>
    intro a0 x1 x2 x3 st l_a0 h
    rw [L_Nb_middle_7] at h
    refine b_Nb_middle_7 (l_a0 := l_a0) (k1 := fun e3 => ?_) (k2 := fun e3 => ?_)
    · replace h := if_t e3 h
      exact b_Nb_middle_39  (k1 := lfI h k)
    · replace h := if_f e3 h
      obtain ⟨v1, s2, h4, h⟩ := bnd2_some h
      refine b_Nb_middle_15 (l_a0 := l_a0) (k1 := t_Nb_walkFrom l_a0 h4 ?_)
      have K6 : V κ M_Nb_middle (RI F) 7 [some (.ref a0), some (.int (if x2 ≤ v1 then x1 else x3 : Int32)), some (.int (if x2 ≤ v1 then x2 else v1 : Int32)), some (.int (x3 + 1)), none] [] s2 := by
        exact ih _ _ _ _ _ l_a0 h
      refine b_Nb_middle_20  (k1 := fun e7 => ?_) (k2 := fun e7 => ?_)
      · refine b_Nb_middle_33  (k1 := ?_)
        exact (ite_t (P := fun z => V κ M_Nb_middle (RI F) 7 [some (.ref a0), some (.int x1), some (.int z), some (.int (x3 + 1)), none] [] s2) e7 (ite_t (P := fun z => V κ M_Nb_middle (RI F) 7 [some (.ref a0), some (.int z), some (.int (if x2 ≤ v1 then x2 else v1 : Int32)), some (.int (x3 + 1)), none] [] s2) e7 K6))
      · refine b_Nb_middle_28  (k1 := ?_)
        exact (ite_f (P := fun z => V κ M_Nb_middle (RI F) 7 [some (.ref a0), some (.int x3), some (.int z), some (.int (x3 + 1)), none] [] s2) e7 (ite_f (P := fun z => V κ M_Nb_middle (RI F) 7 [some (.ref a0), some (.int z), some (.int (if x2 ≤ v1 then x2 else v1 : Int32)), some (.int (x3 + 1)), none] [] s2) e7 K6))
theorem t_Nb_middle {κ : Ko} {F : Int32 → AS → Prop} {a0 : Nat} {st : AS} {v : Int32} {s' : AS} (l_a0 : ly κ a0 = (4, 5)) (h : f_Nb_middle κ a0 st = some (v, s')) (k : F v s') : C κ M_Nb_middle [.ref a0] st (RI F) := by
  unfold f_Nb_middle at h
  refine e_Nb_middle ?_
  refine b_Nb_middle_0  (k1 := ?_)
  refine l_Nb_middle_7 k FU _ _ _ _ _ l_a0 h
noncomputable def f_X_heart (κ : Ko) (a0 : Nat) (x1 : Int32) (x2 : Int32) (st : AS) : Option (Int32 × AS) := bnd (f_Pl_get κ (a0 + 21) x1 st) (fun v1 => nul v1 (some (((-1) : Int32), st)) (fun c2 => grd (ly κ c2 = (8, 14)) (if (wi ((x2 : Int32).toInt64) (0 : Int64) (1 : Int64)) = 0 then some (((-1) : Int32), st) else bnd (f_Nb_find κ (a0 + 65) c2 st) (fun s4 => bnd2 (f_Nb_middle κ (a0 + 65) s4) (fun v5 s6 => if x2 = 0 then some (v5, s6) else bnd2 (f_Nb_walkFrom κ (a0 + 65) v5 s6) (fun v7 s8 => some (v7, s8)))))))
theorem t_X_heart {κ : Ko} {F : Int32 → AS → Prop} {a0 : Nat} {x1 : Int32} {x2 : Int32} {st : AS} {v : Int32} {s' : AS} (l_a0 : ly κ a0 = (11, 15)) (h : f_X_heart κ a0 x1 x2 st = some (v, s')) (k : F v s') : C κ M_X_heart [.ref a0, .int x1, .int x2] st (RI F) := by
  unfold f_X_heart at h
  refine e_X_heart ?_
  obtain ⟨v1, h9, h⟩ := bnd_some h
  refine b_X_heart_0 (l_a0 := l_a0) (k1 := t_Pl_get (co11 21 5 3 rfl l_a0) h9 ?_)
  rcases v1 with _ | c2
  · replace h := nul_n h
    exact b_X_heart_8_RN  (k1 := lfI h k)
  · obtain ⟨l3, h⟩ := grd_some (nul_s h)
    refine b_X_heart_8_RR  (k1 := t_X_within  rfl ?_)
    refine b_X_heart_20  (k1 := fun e10 => ?_) (k2 := fun e10 => ?_)
    · replace h := if_f e10 h
      obtain ⟨s4, h11, h⟩ := bnd_some h
      refine b_X_heart_25 (l_a0 := l_a0) (k1 := t_Nb_find (co11 65 4 5 rfl l_a0) l3 h11 ?_)
      obtain ⟨v5, s6, h12, h⟩ := bnd2_some h
      refine b_X_heart_33 (l_a0 := l_a0) (k1 := t_Nb_middle (co11 65 4 5 rfl l_a0) h12 ?_)
      refine b_X_heart_40  (k1 := fun e13 => ?_) (k2 := fun e13 => ?_)
      · replace h := if_f e13 h
        obtain ⟨v7, s8, h14, h⟩ := bnd2_some h
        refine b_X_heart_51 (l_a0 := l_a0) (k1 := t_Nb_walkFrom (co11 65 4 5 rfl l_a0) h14 ?_)
        exact b_X_heart_60  (k1 := lfI h k)
      · replace h := if_t e13 h
        exact b_X_heart_46  (k1 := lfI h k)
    · replace h := if_t e10 h
      exact b_X_heart_23  (k1 := lfI h k)
noncomputable def f_Sh_becomeLike (κ : Ko) (a0 : Nat) (a1 : Nat) (st : AS) : Option AS := bnd (gr (cpi (cpi (cpi st (a1 + 1) (a0 + 1) (min 800 800)) (a1 + 2) (a0 + 2) (min 2800 2800)) (a1 + 3) (a0 + 3) (min 61 61)) a1 4) (fun c2 => grd (ly κ c2 = (3, 7)) (some (ul (ui (ui (ui (ui (ui (ui (ui (ui (ur (cpi (cpi (cpi st (a1 + 1) (a0 + 1) (min 800 800)) (a1 + 2) (a0 + 2) (min 2800 2800)) (a1 + 3) (a0 + 3) (min 61 61)) a0 4 (some c2)) a0 5 (gi (ur (cpi (cpi (cpi st (a1 + 1) (a0 + 1) (min 800 800)) (a1 + 2) (a0 + 2) (min 2800 2800)) (a1 + 3) (a0 + 3) (min 61 61)) a0 4 (some c2)) a1 5)) a0 6 (gi (ui (ur (cpi (cpi (cpi st (a1 + 1) (a0 + 1) (min 800 800)) (a1 + 2) (a0 + 2) (min 2800 2800)) (a1 + 3) (a0 + 3) (min 61 61)) a0 4 (some c2)) a0 5 (gi (ur (cpi (cpi (cpi st (a1 + 1) (a0 + 1) (min 800 800)) (a1 + 2) (a0 + 2) (min 2800 2800)) (a1 + 3) (a0 + 3) (min 61 61)) a0 4 (some c2)) a1 5)) a1 6)) a0 7 (gi (ui (ui (ur (cpi (cpi (cpi st (a1 + 1) (a0 + 1) (min 800 800)) (a1 + 2) (a0 + 2) (min 2800 2800)) (a1 + 3) (a0 + 3) (min 61 61)) a0 4 (some c2)) a0 5 (gi (ur (cpi (cpi (cpi st (a1 + 1) (a0 + 1) (min 800 800)) (a1 + 2) (a0 + 2) (min 2800 2800)) (a1 + 3) (a0 + 3) (min 61 61)) a0 4 (some c2)) a1 5)) a0 6 (gi (ui (ur (cpi (cpi (cpi st (a1 + 1) (a0 + 1) (min 800 800)) (a1 + 2) (a0 + 2) (min 2800 2800)) (a1 + 3) (a0 + 3) (min 61 61)) a0 4 (some c2)) a0 5 (gi (ur (cpi (cpi (cpi st (a1 + 1) (a0 + 1) (min 800 800)) (a1 + 2) (a0 + 2) (min 2800 2800)) (a1 + 3) (a0 + 3) (min 61 61)) a0 4 (some c2)) a1 5)) a1 6)) a1 7)) a0 8 (gi (ui (ui (ui (ur (cpi (cpi (cpi st (a1 + 1) (a0 + 1) (min 800 800)) (a1 + 2) (a0 + 2) (min 2800 2800)) (a1 + 3) (a0 + 3) (min 61 61)) a0 4 (some c2)) a0 5 (gi (ur (cpi (cpi (cpi st (a1 + 1) (a0 + 1) (min 800 800)) (a1 + 2) (a0 + 2) (min 2800 2800)) (a1 + 3) (a0 + 3) (min 61 61)) a0 4 (some c2)) a1 5)) a0 6 (gi (ui (ur (cpi (cpi (cpi st (a1 + 1) (a0 + 1) (min 800 800)) (a1 + 2) (a0 + 2) (min 2800 2800)) (a1 + 3) (a0 + 3) (min 61 61)) a0 4 (some c2)) a0 5 (gi (ur (cpi (cpi (cpi st (a1 + 1) (a0 + 1) (min 800 800)) (a1 + 2) (a0 + 2) (min 2800 2800)) (a1 + 3) (a0 + 3) (min 61 61)) a0 4 (some c2)) a1 5)) a1 6)) a0 7 (gi (ui (ui (ur (cpi (cpi (cpi st (a1 + 1) (a0 + 1) (min 800 800)) (a1 + 2) (a0 + 2) (min 2800 2800)) (a1 + 3) (a0 + 3) (min 61 61)) a0 4 (some c2)) a0 5 (gi (ur (cpi (cpi (cpi st (a1 + 1) (a0 + 1) (min 800 800)) (a1 + 2) (a0 + 2) (min 2800 2800)) (a1 + 3) (a0 + 3) (min 61 61)) a0 4 (some c2)) a1 5)) a0 6 (gi (ui (ur (cpi (cpi (cpi st (a1 + 1) (a0 + 1) (min 800 800)) (a1 + 2) (a0 + 2) (min 2800 2800)) (a1 + 3) (a0 + 3) (min 61 61)) a0 4 (some c2)) a0 5 (gi (ur (cpi (cpi (cpi st (a1 + 1) (a0 + 1) (min 800 800)) (a1 + 2) (a0 + 2) (min 2800 2800)) (a1 + 3) (a0 + 3) (min 61 61)) a0 4 (some c2)) a1 5)) a1 6)) a1 7)) a1 8)) a0 9 (gi (ui (ui (ui (ui (ur (cpi (cpi (cpi st (a1 + 1) (a0 + 1) (min 800 800)) (a1 + 2) (a0 + 2) (min 2800 2800)) (a1 + 3) (a0 + 3) (min 61 61)) a0 4 (some c2)) a0 5 (gi (ur (cpi (cpi (cpi st (a1 + 1) (a0 + 1) (min 800 800)) (a1 + 2) (a0 + 2) (min 2800 2800)) (a1 + 3) (a0 + 3) (min 61 61)) a0 4 (some c2)) a1 5)) a0 6 (gi (ui (ur (cpi (cpi (cpi st (a1 + 1) (a0 + 1) (min 800 800)) (a1 + 2) (a0 + 2) (min 2800 2800)) (a1 + 3) (a0 + 3) (min 61 61)) a0 4 (some c2)) a0 5 (gi (ur (cpi (cpi (cpi st (a1 + 1) (a0 + 1) (min 800 800)) (a1 + 2) (a0 + 2) (min 2800 2800)) (a1 + 3) (a0 + 3) (min 61 61)) a0 4 (some c2)) a1 5)) a1 6)) a0 7 (gi (ui (ui (ur (cpi (cpi (cpi st (a1 + 1) (a0 + 1) (min 800 800)) (a1 + 2) (a0 + 2) (min 2800 2800)) (a1 + 3) (a0 + 3) (min 61 61)) a0 4 (some c2)) a0 5 (gi (ur (cpi (cpi (cpi st (a1 + 1) (a0 + 1) (min 800 800)) (a1 + 2) (a0 + 2) (min 2800 2800)) (a1 + 3) (a0 + 3) (min 61 61)) a0 4 (some c2)) a1 5)) a0 6 (gi (ui (ur (cpi (cpi (cpi st (a1 + 1) (a0 + 1) (min 800 800)) (a1 + 2) (a0 + 2) (min 2800 2800)) (a1 + 3) (a0 + 3) (min 61 61)) a0 4 (some c2)) a0 5 (gi (ur (cpi (cpi (cpi st (a1 + 1) (a0 + 1) (min 800 800)) (a1 + 2) (a0 + 2) (min 2800 2800)) (a1 + 3) (a0 + 3) (min 61 61)) a0 4 (some c2)) a1 5)) a1 6)) a1 7)) a0 8 (gi (ui (ui (ui (ur (cpi (cpi (cpi st (a1 + 1) (a0 + 1) (min 800 800)) (a1 + 2) (a0 + 2) (min 2800 2800)) (a1 + 3) (a0 + 3) (min 61 61)) a0 4 (some c2)) a0 5 (gi (ur (cpi (cpi (cpi st (a1 + 1) (a0 + 1) (min 800 800)) (a1 + 2) (a0 + 2) (min 2800 2800)) (a1 + 3) (a0 + 3) (min 61 61)) a0 4 (some c2)) a1 5)) a0 6 (gi (ui (ur (cpi (cpi (cpi st (a1 + 1) (a0 + 1) (min 800 800)) (a1 + 2) (a0 + 2) (min 2800 2800)) (a1 + 3) (a0 + 3) (min 61 61)) a0 4 (some c2)) a0 5 (gi (ur (cpi (cpi (cpi st (a1 + 1) (a0 + 1) (min 800 800)) (a1 + 2) (a0 + 2) (min 2800 2800)) (a1 + 3) (a0 + 3) (min 61 61)) a0 4 (some c2)) a1 5)) a1 6)) a0 7 (gi (ui (ui (ur (cpi (cpi (cpi st (a1 + 1) (a0 + 1) (min 800 800)) (a1 + 2) (a0 + 2) (min 2800 2800)) (a1 + 3) (a0 + 3) (min 61 61)) a0 4 (some c2)) a0 5 (gi (ur (cpi (cpi (cpi st (a1 + 1) (a0 + 1) (min 800 800)) (a1 + 2) (a0 + 2) (min 2800 2800)) (a1 + 3) (a0 + 3) (min 61 61)) a0 4 (some c2)) a1 5)) a0 6 (gi (ui (ur (cpi (cpi (cpi st (a1 + 1) (a0 + 1) (min 800 800)) (a1 + 2) (a0 + 2) (min 2800 2800)) (a1 + 3) (a0 + 3) (min 61 61)) a0 4 (some c2)) a0 5 (gi (ur (cpi (cpi (cpi st (a1 + 1) (a0 + 1) (min 800 800)) (a1 + 2) (a0 + 2) (min 2800 2800)) (a1 + 3) (a0 + 3) (min 61 61)) a0 4 (some c2)) a1 5)) a1 6)) a1 7)) a1 8)) a1 9)) a0 10 (gi (ui (ui (ui (ui (ui (ur (cpi (cpi (cpi st (a1 + 1) (a0 + 1) (min 800 800)) (a1 + 2) (a0 + 2) (min 2800 2800)) (a1 + 3) (a0 + 3) (min 61 61)) a0 4 (some c2)) a0 5 (gi (ur (cpi (cpi (cpi st (a1 + 1) (a0 + 1) (min 800 800)) (a1 + 2) (a0 + 2) (min 2800 2800)) (a1 + 3) (a0 + 3) (min 61 61)) a0 4 (some c2)) a1 5)) a0 6 (gi (ui (ur (cpi (cpi (cpi st (a1 + 1) (a0 + 1) (min 800 800)) (a1 + 2) (a0 + 2) (min 2800 2800)) (a1 + 3) (a0 + 3) (min 61 61)) a0 4 (some c2)) a0 5 (gi (ur (cpi (cpi (cpi st (a1 + 1) (a0 + 1) (min 800 800)) (a1 + 2) (a0 + 2) (min 2800 2800)) (a1 + 3) (a0 + 3) (min 61 61)) a0 4 (some c2)) a1 5)) a1 6)) a0 7 (gi (ui (ui (ur (cpi (cpi (cpi st (a1 + 1) (a0 + 1) (min 800 800)) (a1 + 2) (a0 + 2) (min 2800 2800)) (a1 + 3) (a0 + 3) (min 61 61)) a0 4 (some c2)) a0 5 (gi (ur (cpi (cpi (cpi st (a1 + 1) (a0 + 1) (min 800 800)) (a1 + 2) (a0 + 2) (min 2800 2800)) (a1 + 3) (a0 + 3) (min 61 61)) a0 4 (some c2)) a1 5)) a0 6 (gi (ui (ur (cpi (cpi (cpi st (a1 + 1) (a0 + 1) (min 800 800)) (a1 + 2) (a0 + 2) (min 2800 2800)) (a1 + 3) (a0 + 3) (min 61 61)) a0 4 (some c2)) a0 5 (gi (ur (cpi (cpi (cpi st (a1 + 1) (a0 + 1) (min 800 800)) (a1 + 2) (a0 + 2) (min 2800 2800)) (a1 + 3) (a0 + 3) (min 61 61)) a0 4 (some c2)) a1 5)) a1 6)) a1 7)) a0 8 (gi (ui (ui (ui (ur (cpi (cpi (cpi st (a1 + 1) (a0 + 1) (min 800 800)) (a1 + 2) (a0 + 2) (min 2800 2800)) (a1 + 3) (a0 + 3) (min 61 61)) a0 4 (some c2)) a0 5 (gi (ur (cpi (cpi (cpi st (a1 + 1) (a0 + 1) (min 800 800)) (a1 + 2) (a0 + 2) (min 2800 2800)) (a1 + 3) (a0 + 3) (min 61 61)) a0 4 (some c2)) a1 5)) a0 6 (gi (ui (ur (cpi (cpi (cpi st (a1 + 1) (a0 + 1) (min 800 800)) (a1 + 2) (a0 + 2) (min 2800 2800)) (a1 + 3) (a0 + 3) (min 61 61)) a0 4 (some c2)) a0 5 (gi (ur (cpi (cpi (cpi st (a1 + 1) (a0 + 1) (min 800 800)) (a1 + 2) (a0 + 2) (min 2800 2800)) (a1 + 3) (a0 + 3) (min 61 61)) a0 4 (some c2)) a1 5)) a1 6)) a0 7 (gi (ui (ui (ur (cpi (cpi (cpi st (a1 + 1) (a0 + 1) (min 800 800)) (a1 + 2) (a0 + 2) (min 2800 2800)) (a1 + 3) (a0 + 3) (min 61 61)) a0 4 (some c2)) a0 5 (gi (ur (cpi (cpi (cpi st (a1 + 1) (a0 + 1) (min 800 800)) (a1 + 2) (a0 + 2) (min 2800 2800)) (a1 + 3) (a0 + 3) (min 61 61)) a0 4 (some c2)) a1 5)) a0 6 (gi (ui (ur (cpi (cpi (cpi st (a1 + 1) (a0 + 1) (min 800 800)) (a1 + 2) (a0 + 2) (min 2800 2800)) (a1 + 3) (a0 + 3) (min 61 61)) a0 4 (some c2)) a0 5 (gi (ur (cpi (cpi (cpi st (a1 + 1) (a0 + 1) (min 800 800)) (a1 + 2) (a0 + 2) (min 2800 2800)) (a1 + 3) (a0 + 3) (min 61 61)) a0 4 (some c2)) a1 5)) a1 6)) a1 7)) a1 8)) a0 9 (gi (ui (ui (ui (ui (ur (cpi (cpi (cpi st (a1 + 1) (a0 + 1) (min 800 800)) (a1 + 2) (a0 + 2) (min 2800 2800)) (a1 + 3) (a0 + 3) (min 61 61)) a0 4 (some c2)) a0 5 (gi (ur (cpi (cpi (cpi st (a1 + 1) (a0 + 1) (min 800 800)) (a1 + 2) (a0 + 2) (min 2800 2800)) (a1 + 3) (a0 + 3) (min 61 61)) a0 4 (some c2)) a1 5)) a0 6 (gi (ui (ur (cpi (cpi (cpi st (a1 + 1) (a0 + 1) (min 800 800)) (a1 + 2) (a0 + 2) (min 2800 2800)) (a1 + 3) (a0 + 3) (min 61 61)) a0 4 (some c2)) a0 5 (gi (ur (cpi (cpi (cpi st (a1 + 1) (a0 + 1) (min 800 800)) (a1 + 2) (a0 + 2) (min 2800 2800)) (a1 + 3) (a0 + 3) (min 61 61)) a0 4 (some c2)) a1 5)) a1 6)) a0 7 (gi (ui (ui (ur (cpi (cpi (cpi st (a1 + 1) (a0 + 1) (min 800 800)) (a1 + 2) (a0 + 2) (min 2800 2800)) (a1 + 3) (a0 + 3) (min 61 61)) a0 4 (some c2)) a0 5 (gi (ur (cpi (cpi (cpi st (a1 + 1) (a0 + 1) (min 800 800)) (a1 + 2) (a0 + 2) (min 2800 2800)) (a1 + 3) (a0 + 3) (min 61 61)) a0 4 (some c2)) a1 5)) a0 6 (gi (ui (ur (cpi (cpi (cpi st (a1 + 1) (a0 + 1) (min 800 800)) (a1 + 2) (a0 + 2) (min 2800 2800)) (a1 + 3) (a0 + 3) (min 61 61)) a0 4 (some c2)) a0 5 (gi (ur (cpi (cpi (cpi st (a1 + 1) (a0 + 1) (min 800 800)) (a1 + 2) (a0 + 2) (min 2800 2800)) (a1 + 3) (a0 + 3) (min 61 61)) a0 4 (some c2)) a1 5)) a1 6)) a1 7)) a0 8 (gi (ui (ui (ui (ur (cpi (cpi (cpi st (a1 + 1) (a0 + 1) (min 800 800)) (a1 + 2) (a0 + 2) (min 2800 2800)) (a1 + 3) (a0 + 3) (min 61 61)) a0 4 (some c2)) a0 5 (gi (ur (cpi (cpi (cpi st (a1 + 1) (a0 + 1) (min 800 800)) (a1 + 2) (a0 + 2) (min 2800 2800)) (a1 + 3) (a0 + 3) (min 61 61)) a0 4 (some c2)) a1 5)) a0 6 (gi (ui (ur (cpi (cpi (cpi st (a1 + 1) (a0 + 1) (min 800 800)) (a1 + 2) (a0 + 2) (min 2800 2800)) (a1 + 3) (a0 + 3) (min 61 61)) a0 4 (some c2)) a0 5 (gi (ur (cpi (cpi (cpi st (a1 + 1) (a0 + 1) (min 800 800)) (a1 + 2) (a0 + 2) (min 2800 2800)) (a1 + 3) (a0 + 3) (min 61 61)) a0 4 (some c2)) a1 5)) a1 6)) a0 7 (gi (ui (ui (ur (cpi (cpi (cpi st (a1 + 1) (a0 + 1) (min 800 800)) (a1 + 2) (a0 + 2) (min 2800 2800)) (a1 + 3) (a0 + 3) (min 61 61)) a0 4 (some c2)) a0 5 (gi (ur (cpi (cpi (cpi st (a1 + 1) (a0 + 1) (min 800 800)) (a1 + 2) (a0 + 2) (min 2800 2800)) (a1 + 3) (a0 + 3) (min 61 61)) a0 4 (some c2)) a1 5)) a0 6 (gi (ui (ur (cpi (cpi (cpi st (a1 + 1) (a0 + 1) (min 800 800)) (a1 + 2) (a0 + 2) (min 2800 2800)) (a1 + 3) (a0 + 3) (min 61 61)) a0 4 (some c2)) a0 5 (gi (ur (cpi (cpi (cpi st (a1 + 1) (a0 + 1) (min 800 800)) (a1 + 2) (a0 + 2) (min 2800 2800)) (a1 + 3) (a0 + 3) (min 61 61)) a0 4 (some c2)) a1 5)) a1 6)) a1 7)) a1 8)) a1 9)) a1 10)) a0 11 (gi (ui (ui (ui (ui (ui (ui (ur (cpi (cpi (cpi st (a1 + 1) (a0 + 1) (min 800 800)) (a1 + 2) (a0 + 2) (min 2800 2800)) (a1 + 3) (a0 + 3) (min 61 61)) a0 4 (some c2)) a0 5 (gi (ur (cpi (cpi (cpi st (a1 + 1) (a0 + 1) (min 800 800)) (a1 + 2) (a0 + 2) (min 2800 2800)) (a1 + 3) (a0 + 3) (min 61 61)) a0 4 (some c2)) a1 5)) a0 6 (gi (ui (ur (cpi (cpi (cpi st (a1 + 1) (a0 + 1) (min 800 800)) (a1 + 2) (a0 + 2) (min 2800 2800)) (a1 + 3) (a0 + 3) (min 61 61)) a0 4 (some c2)) a0 5 (gi (ur (cpi (cpi (cpi st (a1 + 1) (a0 + 1) (min 800 800)) (a1 + 2) (a0 + 2) (min 2800 2800)) (a1 + 3) (a0 + 3) (min 61 61)) a0 4 (some c2)) a1 5)) a1 6)) a0 7 (gi (ui (ui (ur (cpi (cpi (cpi st (a1 + 1) (a0 + 1) (min 800 800)) (a1 + 2) (a0 + 2) (min 2800 2800)) (a1 + 3) (a0 + 3) (min 61 61)) a0 4 (some c2)) a0 5 (gi (ur (cpi (cpi (cpi st (a1 + 1) (a0 + 1) (min 800 800)) (a1 + 2) (a0 + 2) (min 2800 2800)) (a1 + 3) (a0 + 3) (min 61 61)) a0 4 (some c2)) a1 5)) a0 6 (gi (ui (ur (cpi (cpi (cpi st (a1 + 1) (a0 + 1) (min 800 800)) (a1 + 2) (a0 + 2) (min 2800 2800)) (a1 + 3) (a0 + 3) (min 61 61)) a0 4 (some c2)) a0 5 (gi (ur (cpi (cpi (cpi st (a1 + 1) (a0 + 1) (min 800 800)) (a1 + 2) (a0 + 2) (min 2800 2800)) (a1 + 3) (a0 + 3) (min 61 61)) a0 4 (some c2)) a1 5)) a1 6)) a1 7)) a0 8 (gi (ui (ui (ui (ur (cpi (cpi (cpi st (a1 + 1) (a0 + 1) (min 800 800)) (a1 + 2) (a0 + 2) (min 2800 2800)) (a1 + 3) (a0 + 3) (min 61 61)) a0 4 (some c2)) a0 5 (gi (ur (cpi (cpi (cpi st (a1 + 1) (a0 + 1) (min 800 800)) (a1 + 2) (a0 + 2) (min 2800 2800)) (a1 + 3) (a0 + 3) (min 61 61)) a0 4 (some c2)) a1 5)) a0 6 (gi (ui (ur (cpi (cpi (cpi st (a1 + 1) (a0 + 1) (min 800 800)) (a1 + 2) (a0 + 2) (min 2800 2800)) (a1 + 3) (a0 + 3) (min 61 61)) a0 4 (some c2)) a0 5 (gi (ur (cpi (cpi (cpi st (a1 + 1) (a0 + 1) (min 800 800)) (a1 + 2) (a0 + 2) (min 2800 2800)) (a1 + 3) (a0 + 3) (min 61 61)) a0 4 (some c2)) a1 5)) a1 6)) a0 7 (gi (ui (ui (ur (cpi (cpi (cpi st (a1 + 1) (a0 + 1) (min 800 800)) (a1 + 2) (a0 + 2) (min 2800 2800)) (a1 + 3) (a0 + 3) (min 61 61)) a0 4 (some c2)) a0 5 (gi (ur (cpi (cpi (cpi st (a1 + 1) (a0 + 1) (min 800 800)) (a1 + 2) (a0 + 2) (min 2800 2800)) (a1 + 3) (a0 + 3) (min 61 61)) a0 4 (some c2)) a1 5)) a0 6 (gi (ui (ur (cpi (cpi (cpi st (a1 + 1) (a0 + 1) (min 800 800)) (a1 + 2) (a0 + 2) (min 2800 2800)) (a1 + 3) (a0 + 3) (min 61 61)) a0 4 (some c2)) a0 5 (gi (ur (cpi (cpi (cpi st (a1 + 1) (a0 + 1) (min 800 800)) (a1 + 2) (a0 + 2) (min 2800 2800)) (a1 + 3) (a0 + 3) (min 61 61)) a0 4 (some c2)) a1 5)) a1 6)) a1 7)) a1 8)) a0 9 (gi (ui (ui (ui (ui (ur (cpi (cpi (cpi st (a1 + 1) (a0 + 1) (min 800 800)) (a1 + 2) (a0 + 2) (min 2800 2800)) (a1 + 3) (a0 + 3) (min 61 61)) a0 4 (some c2)) a0 5 (gi (ur (cpi (cpi (cpi st (a1 + 1) (a0 + 1) (min 800 800)) (a1 + 2) (a0 + 2) (min 2800 2800)) (a1 + 3) (a0 + 3) (min 61 61)) a0 4 (some c2)) a1 5)) a0 6 (gi (ui (ur (cpi (cpi (cpi st (a1 + 1) (a0 + 1) (min 800 800)) (a1 + 2) (a0 + 2) (min 2800 2800)) (a1 + 3) (a0 + 3) (min 61 61)) a0 4 (some c2)) a0 5 (gi (ur (cpi (cpi (cpi st (a1 + 1) (a0 + 1) (min 800 800)) (a1 + 2) (a0 + 2) (min 2800 2800)) (a1 + 3) (a0 + 3) (min 61 61)) a0 4 (some c2)) a1 5)) a1 6)) a0 7 (gi (ui (ui (ur (cpi (cpi (cpi st (a1 + 1) (a0 + 1) (min 800 800)) (a1 + 2) (a0 + 2) (min 2800 2800)) (a1 + 3) (a0 + 3) (min 61 61)) a0 4 (some c2)) a0 5 (gi (ur (cpi (cpi (cpi st (a1 + 1) (a0 + 1) (min 800 800)) (a1 + 2) (a0 + 2) (min 2800 2800)) (a1 + 3) (a0 + 3) (min 61 61)) a0 4 (some c2)) a1 5)) a0 6 (gi (ui (ur (cpi (cpi (cpi st (a1 + 1) (a0 + 1) (min 800 800)) (a1 + 2) (a0 + 2) (min 2800 2800)) (a1 + 3) (a0 + 3) (min 61 61)) a0 4 (some c2)) a0 5 (gi (ur (cpi (cpi (cpi st (a1 + 1) (a0 + 1) (min 800 800)) (a1 + 2) (a0 + 2) (min 2800 2800)) (a1 + 3) (a0 + 3) (min 61 61)) a0 4 (some c2)) a1 5)) a1 6)) a1 7)) a0 8 (gi (ui (ui (ui (ur (cpi (cpi (cpi st (a1 + 1) (a0 + 1) (min 800 800)) (a1 + 2) (a0 + 2) (min 2800 2800)) (a1 + 3) (a0 + 3) (min 61 61)) a0 4 (some c2)) a0 5 (gi (ur (cpi (cpi (cpi st (a1 + 1) (a0 + 1) (min 800 800)) (a1 + 2) (a0 + 2) (min 2800 2800)) (a1 + 3) (a0 + 3) (min 61 61)) a0 4 (some c2)) a1 5)) a0 6 (gi (ui (ur (cpi (cpi (cpi st (a1 + 1) (a0 + 1) (min 800 800)) (a1 + 2) (a0 + 2) (min 2800 2800)) (a1 + 3) (a0 + 3) (min 61 61)) a0 4 (some c2)) a0 5 (gi (ur (cpi (cpi (cpi st (a1 + 1) (a0 + 1) (min 800 800)) (a1 + 2) (a0 + 2) (min 2800 2800)) (a1 + 3) (a0 + 3) (min 61 61)) a0 4 (some c2)) a1 5)) a1 6)) a0 7 (gi (ui (ui (ur (cpi (cpi (cpi st (a1 + 1) (a0 + 1) (min 800 800)) (a1 + 2) (a0 + 2) (min 2800 2800)) (a1 + 3) (a0 + 3) (min 61 61)) a0 4 (some c2)) a0 5 (gi (ur (cpi (cpi (cpi st (a1 + 1) (a0 + 1) (min 800 800)) (a1 + 2) (a0 + 2) (min 2800 2800)) (a1 + 3) (a0 + 3) (min 61 61)) a0 4 (some c2)) a1 5)) a0 6 (gi (ui (ur (cpi (cpi (cpi st (a1 + 1) (a0 + 1) (min 800 800)) (a1 + 2) (a0 + 2) (min 2800 2800)) (a1 + 3) (a0 + 3) (min 61 61)) a0 4 (some c2)) a0 5 (gi (ur (cpi (cpi (cpi st (a1 + 1) (a0 + 1) (min 800 800)) (a1 + 2) (a0 + 2) (min 2800 2800)) (a1 + 3) (a0 + 3) (min 61 61)) a0 4 (some c2)) a1 5)) a1 6)) a1 7)) a1 8)) a1 9)) a0 10 (gi (ui (ui (ui (ui (ui (ur (cpi (cpi (cpi st (a1 + 1) (a0 + 1) (min 800 800)) (a1 + 2) (a0 + 2) (min 2800 2800)) (a1 + 3) (a0 + 3) (min 61 61)) a0 4 (some c2)) a0 5 (gi (ur (cpi (cpi (cpi st (a1 + 1) (a0 + 1) (min 800 800)) (a1 + 2) (a0 + 2) (min 2800 2800)) (a1 + 3) (a0 + 3) (min 61 61)) a0 4 (some c2)) a1 5)) a0 6 (gi (ui (ur (cpi (cpi (cpi st (a1 + 1) (a0 + 1) (min 800 800)) (a1 + 2) (a0 + 2) (min 2800 2800)) (a1 + 3) (a0 + 3) (min 61 61)) a0 4 (some c2)) a0 5 (gi (ur (cpi (cpi (cpi st (a1 + 1) (a0 + 1) (min 800 800)) (a1 + 2) (a0 + 2) (min 2800 2800)) (a1 + 3) (a0 + 3) (min 61 61)) a0 4 (some c2)) a1 5)) a1 6)) a0 7 (gi (ui (ui (ur (cpi (cpi (cpi st (a1 + 1) (a0 + 1) (min 800 800)) (a1 + 2) (a0 + 2) (min 2800 2800)) (a1 + 3) (a0 + 3) (min 61 61)) a0 4 (some c2)) a0 5 (gi (ur (cpi (cpi (cpi st (a1 + 1) (a0 + 1) (min 800 800)) (a1 + 2) (a0 + 2) (min 2800 2800)) (a1 + 3) (a0 + 3) (min 61 61)) a0 4 (some c2)) a1 5)) a0 6 (gi (ui (ur (cpi (cpi (cpi st (a1 + 1) (a0 + 1) (min 800 800)) (a1 + 2) (a0 + 2) (min 2800 2800)) (a1 + 3) (a0 + 3) (min 61 61)) a0 4 (some c2)) a0 5 (gi (ur (cpi (cpi (cpi st (a1 + 1) (a0 + 1) (min 800 800)) (a1 + 2) (a0 + 2) (min 2800 2800)) (a1 + 3) (a0 + 3) (min 61 61)) a0 4 (some c2)) a1 5)) a1 6)) a1 7)) a0 8 (gi (ui (ui (ui (ur (cpi (cpi (cpi st (a1 + 1) (a0 + 1) (min 800 800)) (a1 + 2) (a0 + 2) (min 2800 2800)) (a1 + 3) (a0 + 3) (min 61 61)) a0 4 (some c2)) a0 5 (gi (ur (cpi (cpi (cpi st (a1 + 1) (a0 + 1) (min 800 800)) (a1 + 2) (a0 + 2) (min 2800 2800)) (a1 + 3) (a0 + 3) (min 61 61)) a0 4 (some c2)) a1 5)) a0 6 (gi (ui (ur (cpi (cpi (cpi st (a1 + 1) (a0 + 1) (min 800 800)) (a1 + 2) (a0 + 2) (min 2800 2800)) (a1 + 3) (a0 + 3) (min 61 61)) a0 4 (some c2)) a0 5 (gi (ur (cpi (cpi (cpi st (a1 + 1) (a0 + 1) (min 800 800)) (a1 + 2) (a0 + 2) (min 2800 2800)) (a1 + 3) (a0 + 3) (min 61 61)) a0 4 (some c2)) a1 5)) a1 6)) a0 7 (gi (ui (ui (ur (cpi (cpi (cpi st (a1 + 1) (a0 + 1) (min 800 800)) (a1 + 2) (a0 + 2) (min 2800 2800)) (a1 + 3) (a0 + 3) (min 61 61)) a0 4 (some c2)) a0 5 (gi (ur (cpi (cpi (cpi st (a1 + 1) (a0 + 1) (min 800 800)) (a1 + 2) (a0 + 2) (min 2800 2800)) (a1 + 3) (a0 + 3) (min 61 61)) a0 4 (some c2)) a1 5)) a0 6 (gi (ui (ur (cpi (cpi (cpi st (a1 + 1) (a0 + 1) (min 800 800)) (a1 + 2) (a0 + 2) (min 2800 2800)) (a1 + 3) (a0 + 3) (min 61 61)) a0 4 (some c2)) a0 5 (gi (ur (cpi (cpi (cpi st (a1 + 1) (a0 + 1) (min 800 800)) (a1 + 2) (a0 + 2) (min 2800 2800)) (a1 + 3) (a0 + 3) (min 61 61)) a0 4 (some c2)) a1 5)) a1 6)) a1 7)) a1 8)) a0 9 (gi (ui (ui (ui (ui (ur (cpi (cpi (cpi st (a1 + 1) (a0 + 1) (min 800 800)) (a1 + 2) (a0 + 2) (min 2800 2800)) (a1 + 3) (a0 + 3) (min 61 61)) a0 4 (some c2)) a0 5 (gi (ur (cpi (cpi (cpi st (a1 + 1) (a0 + 1) (min 800 800)) (a1 + 2) (a0 + 2) (min 2800 2800)) (a1 + 3) (a0 + 3) (min 61 61)) a0 4 (some c2)) a1 5)) a0 6 (gi (ui (ur (cpi (cpi (cpi st (a1 + 1) (a0 + 1) (min 800 800)) (a1 + 2) (a0 + 2) (min 2800 2800)) (a1 + 3) (a0 + 3) (min 61 61)) a0 4 (some c2)) a0 5 (gi (ur (cpi (cpi (cpi st (a1 + 1) (a0 + 1) (min 800 800)) (a1 + 2) (a0 + 2) (min 2800 2800)) (a1 + 3) (a0 + 3) (min 61 61)) a0 4 (some c2)) a1 5)) a1 6)) a0 7 (gi (ui (ui (ur (cpi (cpi (cpi st (a1 + 1) (a0 + 1) (min 800 800)) (a1 + 2) (a0 + 2) (min 2800 2800)) (a1 + 3) (a0 + 3) (min 61 61)) a0 4 (some c2)) a0 5 (gi (ur (cpi (cpi (cpi st (a1 + 1) (a0 + 1) (min 800 800)) (a1 + 2) (a0 + 2) (min 2800 2800)) (a1 + 3) (a0 + 3) (min 61 61)) a0 4 (some c2)) a1 5)) a0 6 (gi (ui (ur (cpi (cpi (cpi st (a1 + 1) (a0 + 1) (min 800 800)) (a1 + 2) (a0 + 2) (min 2800 2800)) (a1 + 3) (a0 + 3) (min 61 61)) a0 4 (some c2)) a0 5 (gi (ur (cpi (cpi (cpi st (a1 + 1) (a0 + 1) (min 800 800)) (a1 + 2) (a0 + 2) (min 2800 2800)) (a1 + 3) (a0 + 3) (min 61 61)) a0 4 (some c2)) a1 5)) a1 6)) a1 7)) a0 8 (gi (ui (ui (ui (ur (cpi (cpi (cpi st (a1 + 1) (a0 + 1) (min 800 800)) (a1 + 2) (a0 + 2) (min 2800 2800)) (a1 + 3) (a0 + 3) (min 61 61)) a0 4 (some c2)) a0 5 (gi (ur (cpi (cpi (cpi st (a1 + 1) (a0 + 1) (min 800 800)) (a1 + 2) (a0 + 2) (min 2800 2800)) (a1 + 3) (a0 + 3) (min 61 61)) a0 4 (some c2)) a1 5)) a0 6 (gi (ui (ur (cpi (cpi (cpi st (a1 + 1) (a0 + 1) (min 800 800)) (a1 + 2) (a0 + 2) (min 2800 2800)) (a1 + 3) (a0 + 3) (min 61 61)) a0 4 (some c2)) a0 5 (gi (ur (cpi (cpi (cpi st (a1 + 1) (a0 + 1) (min 800 800)) (a1 + 2) (a0 + 2) (min 2800 2800)) (a1 + 3) (a0 + 3) (min 61 61)) a0 4 (some c2)) a1 5)) a1 6)) a0 7 (gi (ui (ui (ur (cpi (cpi (cpi st (a1 + 1) (a0 + 1) (min 800 800)) (a1 + 2) (a0 + 2) (min 2800 2800)) (a1 + 3) (a0 + 3) (min 61 61)) a0 4 (some c2)) a0 5 (gi (ur (cpi (cpi (cpi st (a1 + 1) (a0 + 1) (min 800 800)) (a1 + 2) (a0 + 2) (min 2800 2800)) (a1 + 3) (a0 + 3) (min 61 61)) a0 4 (some c2)) a1 5)) a0 6 (gi (ui (ur (cpi (cpi (cpi st (a1 + 1) (a0 + 1) (min 800 800)) (a1 + 2) (a0 + 2) (min 2800 2800)) (a1 + 3) (a0 + 3) (min 61 61)) a0 4 (some c2)) a0 5 (gi (ur (cpi (cpi (cpi st (a1 + 1) (a0 + 1) (min 800 800)) (a1 + 2) (a0 + 2) (min 2800 2800)) (a1 + 3) (a0 + 3) (min 61 61)) a0 4 (some c2)) a1 5)) a1 6)) a1 7)) a1 8)) a1 9)) a1 10)) a1 11)) a0 12 (gi (ui (ui (ui (ui (ui (ui (ui (ur (cpi (cpi (cpi st (a1 + 1) (a0 + 1) (min 800 800)) (a1 + 2) (a0 + 2) (min 2800 2800)) (a1 + 3) (a0 + 3) (min 61 61)) a0 4 (some c2)) a0 5 (gi (ur (cpi (cpi (cpi st (a1 + 1) (a0 + 1) (min 800 800)) (a1 + 2) (a0 + 2) (min 2800 2800)) (a1 + 3) (a0 + 3) (min 61 61)) a0 4 (some c2)) a1 5)) a0 6 (gi (ui (ur (cpi (cpi (cpi st (a1 + 1) (a0 + 1) (min 800 800)) (a1 + 2) (a0 + 2) (min 2800 2800)) (a1 + 3) (a0 + 3) (min 61 61)) a0 4 (some c2)) a0 5 (gi (ur (cpi (cpi (cpi st (a1 + 1) (a0 + 1) (min 800 800)) (a1 + 2) (a0 + 2) (min 2800 2800)) (a1 + 3) (a0 + 3) (min 61 61)) a0 4 (some c2)) a1 5)) a1 6)) a0 7 (gi (ui (ui (ur (cpi (cpi (cpi st (a1 + 1) (a0 + 1) (min 800 800)) (a1 + 2) (a0 + 2) (min 2800 2800)) (a1 + 3) (a0 + 3) (min 61 61)) a0 4 (some c2)) a0 5 (gi (ur (cpi (cpi (cpi st (a1 + 1) (a0 + 1) (min 800 800)) (a1 + 2) (a0 + 2) (min 2800 2800)) (a1 + 3) (a0 + 3) (min 61 61)) a0 4 (some c2)) a1 5)) a0 6 (gi (ui (ur (cpi (cpi (cpi st (a1 + 1) (a0 + 1) (min 800 800)) (a1 + 2) (a0 + 2) (min 2800 2800)) (a1 + 3) (a0 + 3) (min 61 61)) a0 4 (some c2)) a0 5 (gi (ur (cpi (cpi (cpi st (a1 + 1) (a0 + 1) (min 800 800)) (a1 + 2) (a0 + 2) (min 2800 2800)) (a1 + 3) (a0 + 3) (min 61 61)) a0 4 (some c2)) a1 5)) a1 6)) a1 7)) a0 8 (gi (ui (ui (ui (ur (cpi (cpi (cpi st (a1 + 1) (a0 + 1) (min 800 800)) (a1 + 2) (a0 + 2) (min 2800 2800)) (a1 + 3) (a0 + 3) (min 61 61)) a0 4 (some c2)) a0 5 (gi (ur (cpi (cpi (cpi st (a1 + 1) (a0 + 1) (min 800 800)) (a1 + 2) (a0 + 2) (min 2800 2800)) (a1 + 3) (a0 + 3) (min 61 61)) a0 4 (some c2)) a1 5)) a0 6 (gi (ui (ur (cpi (cpi (cpi st (a1 + 1) (a0 + 1) (min 800 800)) (a1 + 2) (a0 + 2) (min 2800 2800)) (a1 + 3) (a0 + 3) (min 61 61)) a0 4 (some c2)) a0 5 (gi (ur (cpi (cpi (cpi st (a1 + 1) (a0 + 1) (min 800 800)) (a1 + 2) (a0 + 2) (min 2800 2800)) (a1 + 3) (a0 + 3) (min 61 61)) a0 4 (some c2)) a1 5)) a1 6)) a0 7 (gi (ui (ui (ur (cpi (cpi (cpi st (a1 + 1) (a0 + 1) (min 800 800)) (a1 + 2) (a0 + 2) (min 2800 2800)) (a1 + 3) (a0 + 3) (min 61 61)) a0 4 (some c2)) a0 5 (gi (ur (cpi (cpi (cpi st (a1 + 1) (a0 + 1) (min 800 800)) (a1 + 2) (a0 + 2) (min 2800 2800)) (a1 + 3) (a0 + 3) (min 61 61)) a0 4 (some c2)) a1 5)) a0 6 (gi (ui (ur (cpi (cpi (cpi st (a1 + 1) (a0 + 1) (min 800 800)) (a1 + 2) (a0 + 2) (min 2800 2800)) (a1 + 3) (a0 + 3) (min 61 61)) a0 4 (some c2)) a0 5 (gi (ur (cpi (cpi (cpi st (a1 + 1) (a0 + 1) (min 800 800)) (a1 + 2) (a0 + 2) (min 2800 2800)) (a1 + 3) (a0 + 3) (min 61 61)) a0 4 (some c2)) a1 5)) a1 6)) a1 7)) a1 8)) a0 9 (gi (ui (ui (ui (ui (ur (cpi (cpi (cpi st (a1 + 1) (a0 + 1) (min 800 800)) (a1 + 2) (a0 + 2) (min 2800 2800)) (a1 + 3) (a0 + 3) (min 61 61)) a0 4 (some c2)) a0 5 (gi (ur (cpi (cpi (cpi st (a1 + 1) (a0 + 1) (min 800 800)) (a1 + 2) (a0 + 2) (min 2800 2800)) (a1 + 3) (a0 + 3) (min 61 61)) a0 4 (some c2)) a1 5)) a0 6 (gi (ui (ur (cpi (cpi (cpi st (a1 + 1) (a0 + 1) (min 800 800)) (a1 + 2) (a0 + 2) (min 2800 2800)) (a1 + 3) (a0 + 3) (min 61 61)) a0 4 (some c2)) a0 5 (gi (ur (cpi (cpi (cpi st (a1 + 1) (a0 + 1) (min 800 800)) (a1 + 2) (a0 + 2) (min 2800 2800)) (a1 + 3) (a0 + 3) (min 61 61)) a0 4 (some c2)) a1 5)) a1 6)) a0 7 (gi (ui (ui (ur (cpi (cpi (cpi st (a1 + 1) (a0 + 1) (min 800 800)) (a1 + 2) (a0 + 2) (min 2800 2800)) (a1 + 3) (a0 + 3) (min 61 61)) a0 4 (some c2)) a0 5 (gi (ur (cpi (cpi (cpi st (a1 + 1) (a0 + 1) (min 800 800)) (a1 + 2) (a0 + 2) (min 2800 2800)) (a1 + 3) (a0 + 3) (min 61 61)) a0 4 (some c2)) a1 5)) a0 6 (gi (ui (ur (cpi (cpi (cpi st (a1 + 1) (a0 + 1) (min 800 800)) (a1 + 2) (a0 + 2) (min 2800 2800)) (a1 + 3) (a0 + 3) (min 61 61)) a0 4 (some c2)) a0 5 (gi (ur (cpi (cpi (cpi st (a1 + 1) (a0 + 1) (min 800 800)) (a1 + 2) (a0 + 2) (min 2800 2800)) (a1 + 3) (a0 + 3) (min 61 61)) a0 4 (some c2)) a1 5)) a1 6)) a1 7)) a0 8 (gi (ui (ui (ui (ur (cpi (cpi (cpi st (a1 + 1) (a0 + 1) (min 800 800)) (a1 + 2) (a0 + 2) (min 2800 2800)) (a1 + 3) (a0 + 3) (min 61 61)) a0 4 (some c2)) a0 5 (gi (ur (cpi (cpi (cpi st (a1 + 1) (a0 + 1) (min 800 800)) (a1 + 2) (a0 + 2) (min 2800 2800)) (a1 + 3) (a0 + 3) (min 61 61)) a0 4 (some c2)) a1 5)) a0 6 (gi (ui (ur (cpi (cpi (cpi st (a1 + 1) (a0 + 1) (min 800 800)) (a1 + 2) (a0 + 2) (min 2800 2800)) (a1 + 3) (a0 + 3) (min 61 61)) a0 4 (some c2)) a0 5 (gi (ur (cpi (cpi (cpi st (a1 + 1) (a0 + 1) (min 800 800)) (a1 + 2) (a0 + 2) (min 2800 2800)) (a1 + 3) (a0 + 3) (min 61 61)) a0 4 (some c2)) a1 5)) a1 6)) a0 7 (gi (ui (ui (ur (cpi (cpi (cpi st (a1 + 1) (a0 + 1) (min 800 800)) (a1 + 2) (a0 + 2) (min 2800 2800)) (a1 + 3) (a0 + 3) (min 61 61)) a0 4 (some c2)) a0 5 (gi (ur (cpi (cpi (cpi st (a1 + 1) (a0 + 1) (min 800 800)) (a1 + 2) (a0 + 2) (min 2800 2800)) (a1 + 3) (a0 + 3) (min 61 61)) a0 4 (some c2)) a1 5)) a0 6 (gi (ui (ur (cpi (cpi (cpi st (a1 + 1) (a0 + 1) (min 800 800)) (a1 + 2) (a0 + 2) (min 2800 2800)) (a1 + 3) (a0 + 3) (min 61 61)) a0 4 (some c2)) a0 5 (gi (ur (cpi (cpi (cpi st (a1 + 1) (a0 + 1) (min 800 800)) (a1 + 2) (a0 + 2) (min 2800 2800)) (a1 + 3) (a0 + 3) (min 61 61)) a0 4 (some c2)) a1 5)) a1 6)) a1 7)) a1 8)) a1 9)) a0 10 (gi (ui (ui (ui (ui (ui (ur (cpi (cpi (cpi st (a1 + 1) (a0 + 1) (min 800 800)) (a1 + 2) (a0 + 2) (min 2800 2800)) (a1 + 3) (a0 + 3) (min 61 61)) a0 4 (some c2)) a0 5 (gi (ur (cpi (cpi (cpi st (a1 + 1) (a0 + 1) (min 800 800)) (a1 + 2) (a0 + 2) (min 2800 2800)) (a1 + 3) (a0 + 3) (min 61 61)) a0 4 (some c2)) a1 5)) a0 6 (gi (ui (ur (cpi (cpi (cpi st (a1 + 1) (a0 + 1) (min 800 800)) (a1 + 2) (a0 + 2) (min 2800 2800)) (a1 + 3) (a0 + 3) (min 61 61)) a0 4 (some c2)) a0 5 (gi (ur (cpi (cpi (cpi st (a1 + 1) (a0 + 1) (min 800 800)) (a1 + 2) (a0 + 2) (min 2800 2800)) (a1 + 3) (a0 + 3) (min 61 61)) a0 4 (some c2)) a1 5)) a1 6)) a0 7 (gi (ui (ui (ur (cpi (cpi (cpi st (a1 + 1) (a0 + 1) (min 800 800)) (a1 + 2) (a0 + 2) (min 2800 2800)) (a1 + 3) (a0 + 3) (min 61 61)) a0 4 (some c2)) a0 5 (gi (ur (cpi (cpi (cpi st (a1 + 1) (a0 + 1) (min 800 800)) (a1 + 2) (a0 + 2) (min 2800 2800)) (a1 + 3) (a0 + 3) (min 61 61)) a0 4 (some c2)) a1 5)) a0 6 (gi (ui (ur (cpi (cpi (cpi st (a1 + 1) (a0 + 1) (min 800 800)) (a1 + 2) (a0 + 2) (min 2800 2800)) (a1 + 3) (a0 + 3) (min 61 61)) a0 4 (some c2)) a0 5 (gi (ur (cpi (cpi (cpi st (a1 + 1) (a0 + 1) (min 800 800)) (a1 + 2) (a0 + 2) (min 2800 2800)) (a1 + 3) (a0 + 3) (min 61 61)) a0 4 (some c2)) a1 5)) a1 6)) a1 7)) a0 8 (gi (ui (ui (ui (ur (cpi (cpi (cpi st (a1 + 1) (a0 + 1) (min 800 800)) (a1 + 2) (a0 + 2) (min 2800 2800)) (a1 + 3) (a0 + 3) (min 61 61)) a0 4 (some c2)) a0 5 (gi (ur (cpi (cpi (cpi st (a1 + 1) (a0 + 1) (min 800 800)) (a1 + 2) (a0 + 2) (min 2800 2800)) (a1 + 3) (a0 + 3) (min 61 61)) a0 4 (some c2)) a1 5)) a0 6 (gi (ui (ur (cpi (cpi (cpi st (a1 + 1) (a0 + 1) (min 800 800)) (a1 + 2) (a0 + 2) (min 2800 2800)) (a1 + 3) (a0 + 3) (min 61 61)) a0 4 (some c2)) a0 5 (gi (ur (cpi (cpi (cpi st (a1 + 1) (a0 + 1) (min 800 800)) (a1 + 2) (a0 + 2) (min 2800 2800)) (a1 + 3) (a0 + 3) (min 61 61)) a0 4 (some c2)) a1 5)) a1 6)) a0 7 (gi (ui (ui (ur (cpi (cpi (cpi st (a1 + 1) (a0 + 1) (min 800 800)) (a1 + 2) (a0 + 2) (min 2800 2800)) (a1 + 3) (a0 + 3) (min 61 61)) a0 4 (some c2)) a0 5 (gi (ur (cpi (cpi (cpi st (a1 + 1) (a0 + 1) (min 800 800)) (a1 + 2) (a0 + 2) (min 2800 2800)) (a1 + 3) (a0 + 3) (min 61 61)) a0 4 (some c2)) a1 5)) a0 6 (gi (ui (ur (cpi (cpi (cpi st (a1 + 1) (a0 + 1) (min 800 800)) (a1 + 2) (a0 + 2) (min 2800 2800)) (a1 + 3) (a0 + 3) (min 61 61)) a0 4 (some c2)) a0 5 (gi (ur (cpi (cpi (cpi st (a1 + 1) (a0 + 1) (min 800 800)) (a1 + 2) (a0 + 2) (min 2800 2800)) (a1 + 3) (a0 + 3) (min 61 61)) a0 4 (some c2)) a1 5)) a1 6)) a1 7)) a1 8)) a0 9 (gi (ui (ui (ui (ui (ur (cpi (cpi (cpi st (a1 + 1) (a0 + 1) (min 800 800)) (a1 + 2) (a0 + 2) (min 2800 2800)) (a1 + 3) (a0 + 3) (min 61 61)) a0 4 (some c2)) a0 5 (gi (ur (cpi (cpi (cpi st (a1 + 1) (a0 + 1) (min 800 800)) (a1 + 2) (a0 + 2) (min 2800 2800)) (a1 + 3) (a0 + 3) (min 61 61)) a0 4 (some c2)) a1 5)) a0 6 (gi (ui (ur (cpi (cpi (cpi st (a1 + 1) (a0 + 1) (min 800 800)) (a1 + 2) (a0 + 2) (min 2800 2800)) (a1 + 3) (a0 + 3) (min 61 61)) a0 4 (some c2)) a0 5 (gi (ur (cpi (cpi (cpi st (a1 + 1) (a0 + 1) (min 800 800)) (a1 + 2) (a0 + 2) (min 2800 2800)) (a1 + 3) (a0 + 3) (min 61 61)) a0 4 (some c2)) a1 5)) a1 6)) a0 7 (gi (ui (ui (ur (cpi (cpi (cpi st (a1 + 1) (a0 + 1) (min 800 800)) (a1 + 2) (a0 + 2) (min 2800 2800)) (a1 + 3) (a0 + 3) (min 61 61)) a0 4 (some c2)) a0 5 (gi (ur (cpi (cpi (cpi st (a1 + 1) (a0 + 1) (min 800 800)) (a1 + 2) (a0 + 2) (min 2800 2800)) (a1 + 3) (a0 + 3) (min 61 61)) a0 4 (some c2)) a1 5)) a0 6 (gi (ui (ur (cpi (cpi (cpi st (a1 + 1) (a0 + 1) (min 800 800)) (a1 + 2) (a0 + 2) (min 2800 2800)) (a1 + 3) (a0 + 3) (min 61 61)) a0 4 (some c2)) a0 5 (gi (ur (cpi (cpi (cpi st (a1 + 1) (a0 + 1) (min 800 800)) (a1 + 2) (a0 + 2) (min 2800 2800)) (a1 + 3) (a0 + 3) (min 61 61)) a0 4 (some c2)) a1 5)) a1 6)) a1 7)) a0 8 (gi (ui (ui (ui (ur (cpi (cpi (cpi st (a1 + 1) (a0 + 1) (min 800 800)) (a1 + 2) (a0 + 2) (min 2800 2800)) (a1 + 3) (a0 + 3) (min 61 61)) a0 4 (some c2)) a0 5 (gi (ur (cpi (cpi (cpi st (a1 + 1) (a0 + 1) (min 800 800)) (a1 + 2) (a0 + 2) (min 2800 2800)) (a1 + 3) (a0 + 3) (min 61 61)) a0 4 (some c2)) a1 5)) a0 6 (gi (ui (ur (cpi (cpi (cpi st (a1 + 1) (a0 + 1) (min 800 800)) (a1 + 2) (a0 + 2) (min 2800 2800)) (a1 + 3) (a0 + 3) (min 61 61)) a0 4 (some c2)) a0 5 (gi (ur (cpi (cpi (cpi st (a1 + 1) (a0 + 1) (min 800 800)) (a1 + 2) (a0 + 2) (min 2800 2800)) (a1 + 3) (a0 + 3) (min 61 61)) a0 4 (some c2)) a1 5)) a1 6)) a0 7 (gi (ui (ui (ur (cpi (cpi (cpi st (a1 + 1) (a0 + 1) (min 800 800)) (a1 + 2) (a0 + 2) (min 2800 2800)) (a1 + 3) (a0 + 3) (min 61 61)) a0 4 (some c2)) a0 5 (gi (ur (cpi (cpi (cpi st (a1 + 1) (a0 + 1) (min 800 800)) (a1 + 2) (a0 + 2) (min 2800 2800)) (a1 + 3) (a0 + 3) (min 61 61)) a0 4 (some c2)) a1 5)) a0 6 (gi (ui (ur (cpi (cpi (cpi st (a1 + 1) (a0 + 1) (min 800 800)) (a1 + 2) (a0 + 2) (min 2800 2800)) (a1 + 3) (a0 + 3) (min 61 61)) a0 4 (some c2)) a0 5 (gi (ur (cpi (cpi (cpi st (a1 + 1) (a0 + 1) (min 800 800)) (a1 + 2) (a0 + 2) (min 2800 2800)) (a1 + 3) (a0 + 3) (min 61 61)) a0 4 (some c2)) a1 5)) a1 6)) a1 7)) a1 8)) a1 9)) a1 10)) a0 11 (gi (ui (ui (ui (ui (ui (ui (ur (cpi (cpi (cpi st (a1 + 1) (a0 + 1) (min 800 800)) (a1 + 2) (a0 + 2) (min 2800 2800)) (a1 + 3) (a0 + 3) (min 61 61)) a0 4 (some c2)) a0 5 (gi (ur (cpi (cpi (cpi st (a1 + 1) (a0 + 1) (min 800 800)) (a1 + 2) (a0 + 2) (min 2800 2800)) (a1 + 3) (a0 + 3) (min 61 61)) a0 4 (some c2)) a1 5)) a0 6 (gi (ui (ur (cpi (cpi (cpi st (a1 + 1) (a0 + 1) (min 800 800)) (a1 + 2) (a0 + 2) (min 2800 2800)) (a1 + 3) (a0 + 3) (min 61 61)) a0 4 (some c2)) a0 5 (gi (ur (cpi (cpi (cpi st (a1 + 1) (a0 + 1) (min 800 800)) (a1 + 2) (a0 + 2) (min 2800 2800)) (a1 + 3) (a0 + 3) (min 61 61)) a0 4 (some c2)) a1 5)) a1 6)) a0 7 (gi (ui (ui (ur (cpi (cpi (cpi st (a1 + 1) (a0 + 1) (min 800 800)) (a1 + 2) (a0 + 2) (min 2800 2800)) (a1 + 3) (a0 + 3) (min 61 61)) a0 4 (some c2)) a0 5 (gi (ur (cpi (cpi (cpi st (a1 + 1) (a0 + 1) (min 800 800)) (a1 + 2) (a0 + 2) (min 2800 2800)) (a1 + 3) (a0 + 3) (min 61 61)) a0 4 (some c2)) a1 5)) a0 6 (gi (ui (ur (cpi (cpi (cpi st (a1 + 1) (a0 + 1) (min 800 800)) (a1 + 2) (a0 + 2) (min 2800 2800)) (a1 + 3) (a0 + 3) (min 61 61)) a0 4 (some c2)) a0 5 (gi (ur (cpi (cpi (cpi st (a1 + 1) (a0 + 1) (min 800 800)) (a1 + 2) (a0 + 2) (min 2800 2800)) (a1 + 3) (a0 + 3) (min 61 61)) a0 4 (some c2)) a1 5)) a1 6)) a1 7)) a0 8 (gi (ui (ui (ui (ur (cpi (cpi (cpi st (a1 + 1) (a0 + 1) (min 800 800)) (a1 + 2) (a0 + 2) (min 2800 2800)) (a1 + 3) (a0 + 3) (min 61 61)) a0 4 (some c2)) a0 5 (gi (ur (cpi (cpi (cpi st (a1 + 1) (a0 + 1) (min 800 800)) (a1 + 2) (a0 + 2) (min 2800 2800)) (a1 + 3) (a0 + 3) (min 61 61)) a0 4 (some c2)) a1 5)) a0 6 (gi (ui (ur (cpi (cpi (cpi st (a1 + 1) (a0 + 1) (min 800 800)) (a1 + 2) (a0 + 2) (min 2800 2800)) (a1 + 3) (a0 + 3) (min 61 61)) a0 4 (some c2)) a0 5 (gi (ur (cpi (cpi (cpi st (a1 + 1) (a0 + 1) (min 800 800)) (a1 + 2) (a0 + 2) (min 2800 2800)) (a1 + 3) (a0 + 3) (min 61 61)) a0 4 (some c2)) a1 5)) a1 6)) a0 7 (gi (ui (ui (ur (cpi (cpi (cpi st (a1 + 1) (a0 + 1) (min 800 800)) (a1 + 2) (a0 + 2) (min 2800 2800)) (a1 + 3) (a0 + 3) (min 61 61)) a0 4 (some c2)) a0 5 (gi (ur (cpi (cpi (cpi st (a1 + 1) (a0 + 1) (min 800 800)) (a1 + 2) (a0 + 2) (min 2800 2800)) (a1 + 3) (a0 + 3) (min 61 61)) a0 4 (some c2)) a1 5)) a0 6 (gi (ui (ur (cpi (cpi (cpi st (a1 + 1) (a0 + 1) (min 800 800)) (a1 + 2) (a0 + 2) (min 2800 2800)) (a1 + 3) (a0 + 3) (min 61 61)) a0 4 (some c2)) a0 5 (gi (ur (cpi (cpi (cpi st (a1 + 1) (a0 + 1) (min 800 800)) (a1 + 2) (a0 + 2) (min 2800 2800)) (a1 + 3) (a0 + 3) (min 61 61)) a0 4 (some c2)) a1 5)) a1 6)) a1 7)) a1 8)) a0 9 (gi (ui (ui (ui (ui (ur (cpi (cpi (cpi st (a1 + 1) (a0 + 1) (min 800 800)) (a1 + 2) (a0 + 2) (min 2800 2800)) (a1 + 3) (a0 + 3) (min 61 61)) a0 4 (some c2)) a0 5 (gi (ur (cpi (cpi (cpi st (a1 + 1) (a0 + 1) (min 800 800)) (a1 + 2) (a0 + 2) (min 2800 2800)) (a1 + 3) (a0 + 3) (min 61 61)) a0 4 (some c2)) a1 5)) a0 6 (gi (ui (ur (cpi (cpi (cpi st (a1 + 1) (a0 + 1) (min 800 800)) (a1 + 2) (a0 + 2) (min 2800 2800)) (a1 + 3) (a0 + 3) (min 61 61)) a0 4 (some c2)) a0 5 (gi (ur (cpi (cpi (cpi st (a1 + 1) (a0 + 1) (min 800 800)) (a1 + 2) (a0 + 2) (min 2800 2800)) (a1 + 3) (a0 + 3) (min 61 61)) a0 4 (some c2)) a1 5)) a1 6)) a0 7 (gi (ui (ui (ur (cpi (cpi (cpi st (a1 + 1) (a0 + 1) (min 800 800)) (a1 + 2) (a0 + 2) (min 2800 2800)) (a1 + 3) (a0 + 3) (min 61 61)) a0 4 (some c2)) a0 5 (gi (ur (cpi (cpi (cpi st (a1 + 1) (a0 + 1) (min 800 800)) (a1 + 2) (a0 + 2) (min 2800 2800)) (a1 + 3) (a0 + 3) (min 61 61)) a0 4 (some c2)) a1 5)) a0 6 (gi (ui (ur (cpi (cpi (cpi st (a1 + 1) (a0 + 1) (min 800 800)) (a1 + 2) (a0 + 2) (min 2800 2800)) (a1 + 3) (a0 + 3) (min 61 61)) a0 4 (some c2)) a0 5 (gi (ur (cpi (cpi (cpi st (a1 + 1) (a0 + 1) (min 800 800)) (a1 + 2) (a0 + 2) (min 2800 2800)) (a1 + 3) (a0 + 3) (min 61 61)) a0 4 (some c2)) a1 5)) a1 6)) a1 7)) a0 8 (gi (ui (ui (ui (ur (cpi (cpi (cpi st (a1 + 1) (a0 + 1) (min 800 800)) (a1 + 2) (a0 + 2) (min 2800 2800)) (a1 + 3) (a0 + 3) (min 61 61)) a0 4 (some c2)) a0 5 (gi (ur (cpi (cpi (cpi st (a1 + 1) (a0 + 1) (min 800 800)) (a1 + 2) (a0 + 2) (min 2800 2800)) (a1 + 3) (a0 + 3) (min 61 61)) a0 4 (some c2)) a1 5)) a0 6 (gi (ui (ur (cpi (cpi (cpi st (a1 + 1) (a0 + 1) (min 800 800)) (a1 + 2) (a0 + 2) (min 2800 2800)) (a1 + 3) (a0 + 3) (min 61 61)) a0 4 (some c2)) a0 5 (gi (ur (cpi (cpi (cpi st (a1 + 1) (a0 + 1) (min 800 800)) (a1 + 2) (a0 + 2) (min 2800 2800)) (a1 + 3) (a0 + 3) (min 61 61)) a0 4 (some c2)) a1 5)) a1 6)) a0 7 (gi (ui (ui (ur (cpi (cpi (cpi st (a1 + 1) (a0 + 1) (min 800 800)) (a1 + 2) (a0 + 2) (min 2800 2800)) (a1 + 3) (a0 + 3) (min 61 61)) a0 4 (some c2)) a0 5 (gi (ur (cpi (cpi (cpi st (a1 + 1) (a0 + 1) (min 800 800)) (a1 + 2) (a0 + 2) (min 2800 2800)) (a1 + 3) (a0 + 3) (min 61 61)) a0 4 (some c2)) a1 5)) a0 6 (gi (ui (ur (cpi (cpi (cpi st (a1 + 1) (a0 + 1) (min 800 800)) (a1 + 2) (a0 + 2) (min 2800 2800)) (a1 + 3) (a0 + 3) (min 61 61)) a0 4 (some c2)) a0 5 (gi (ur (cpi (cpi (cpi st (a1 + 1) (a0 + 1) (min 800 800)) (a1 + 2) (a0 + 2) (min 2800 2800)) (a1 + 3) (a0 + 3) (min 61 61)) a0 4 (some c2)) a1 5)) a1 6)) a1 7)) a1 8)) a1 9)) a0 10 (gi (ui (ui (ui (ui (ui (ur (cpi (cpi (cpi st (a1 + 1) (a0 + 1) (min 800 800)) (a1 + 2) (a0 + 2) (min 2800 2800)) (a1 + 3) (a0 + 3) (min 61 61)) a0 4 (some c2)) a0 5 (gi (ur (cpi (cpi (cpi st (a1 + 1) (a0 + 1) (min 800 800)) (a1 + 2) (a0 + 2) (min 2800 2800)) (a1 + 3) (a0 + 3) (min 61 61)) a0 4 (some c2)) a1 5)) a0 6 (gi (ui (ur (cpi (cpi (cpi st (a1 + 1) (a0 + 1) (min 800 800)) (a1 + 2) (a0 + 2) (min 2800 2800)) (a1 + 3) (a0 + 3) (min 61 61)) a0 4 (some c2)) a0 5 (gi (ur (cpi (cpi (cpi st (a1 + 1) (a0 + 1) (min 800 800)) (a1 + 2) (a0 + 2) (min 2800 2800)) (a1 + 3) (a0 + 3) (min 61 61)) a0 4 (some c2)) a1 5)) a1 6)) a0 7 (gi (ui (ui (ur (cpi (cpi (cpi st (a1 + 1) (a0 + 1) (min 800 800)) (a1 + 2) (a0 + 2) (min 2800 2800)) (a1 + 3) (a0 + 3) (min 61 61)) a0 4 (some c2)) a0 5 (gi (ur (cpi (cpi (cpi st (a1 + 1) (a0 + 1) (min 800 800)) (a1 + 2) (a0 + 2) (min 2800 2800)) (a1 + 3) (a0 + 3) (min 61 61)) a0 4 (some c2)) a1 5)) a0 6 (gi (ui (ur (cpi (cpi (cpi st (a1 + 1) (a0 + 1) (min 800 800)) (a1 + 2) (a0 + 2) (min 2800 2800)) (a1 + 3) (a0 + 3) (min 61 61)) a0 4 (some c2)) a0 5 (gi (ur (cpi (cpi (cpi st (a1 + 1) (a0 + 1) (min 800 800)) (a1 + 2) (a0 + 2) (min 2800 2800)) (a1 + 3) (a0 + 3) (min 61 61)) a0 4 (some c2)) a1 5)) a1 6)) a1 7)) a0 8 (gi (ui (ui (ui (ur (cpi (cpi (cpi st (a1 + 1) (a0 + 1) (min 800 800)) (a1 + 2) (a0 + 2) (min 2800 2800)) (a1 + 3) (a0 + 3) (min 61 61)) a0 4 (some c2)) a0 5 (gi (ur (cpi (cpi (cpi st (a1 + 1) (a0 + 1) (min 800 800)) (a1 + 2) (a0 + 2) (min 2800 2800)) (a1 + 3) (a0 + 3) (min 61 61)) a0 4 (some c2)) a1 5)) a0 6 (gi (ui (ur (cpi (cpi (cpi st (a1 + 1) (a0 + 1) (min 800 800)) (a1 + 2) (a0 + 2) (min 2800 2800)) (a1 + 3) (a0 + 3) (min 61 61)) a0 4 (some c2)) a0 5 (gi (ur (cpi (cpi (cpi st (a1 + 1) (a0 + 1) (min 800 800)) (a1 + 2) (a0 + 2) (min 2800 2800)) (a1 + 3) (a0 + 3) (min 61 61)) a0 4 (some c2)) a1 5)) a1 6)) a0 7 (gi (ui (ui (ur (cpi (cpi (cpi st (a1 + 1) (a0 + 1) (min 800 800)) (a1 + 2) (a0 + 2) (min 2800 2800)) (a1 + 3) (a0 + 3) (min 61 61)) a0 4 (some c2)) a0 5 (gi (ur (cpi (cpi (cpi st (a1 + 1) (a0 + 1) (min 800 800)) (a1 + 2) (a0 + 2) (min 2800 2800)) (a1 + 3) (a0 + 3) (min 61 61)) a0 4 (some c2)) a1 5)) a0 6 (gi (ui (ur (cpi (cpi (cpi st (a1 + 1) (a0 + 1) (min 800 800)) (a1 + 2) (a0 + 2) (min 2800 2800)) (a1 + 3) (a0 + 3) (min 61 61)) a0 4 (some c2)) a0 5 (gi (ur (cpi (cpi (cpi st (a1 + 1) (a0 + 1) (min 800 800)) (a1 + 2) (a0 + 2) (min 2800 2800)) (a1 + 3) (a0 + 3) (min 61 61)) a0 4 (some c2)) a1 5)) a1 6)) a1 7)) a1 8)) a0 9 (gi (ui (ui (ui (ui (ur (cpi (cpi (cpi st (a1 + 1) (a0 + 1) (min 800 800)) (a1 + 2) (a0 + 2) (min 2800 2800)) (a1 + 3) (a0 + 3) (min 61 61)) a0 4 (some c2)) a0 5 (gi (ur (cpi (cpi (cpi st (a1 + 1) (a0 + 1) (min 800 800)) (a1 + 2) (a0 + 2) (min 2800 2800)) (a1 + 3) (a0 + 3) (min 61 61)) a0 4 (some c2)) a1 5)) a0 6 (gi (ui (ur (cpi (cpi (cpi st (a1 + 1) (a0 + 1) (min 800 800)) (a1 + 2) (a0 + 2) (min 2800 2800)) (a1 + 3) (a0 + 3) (min 61 61)) a0 4 (some c2)) a0 5 (gi (ur (cpi (cpi (cpi st (a1 + 1) (a0 + 1) (min 800 800)) (a1 + 2) (a0 + 2) (min 2800 2800)) (a1 + 3) (a0 + 3) (min 61 61)) a0 4 (some c2)) a1 5)) a1 6)) a0 7 (gi (ui (ui (ur (cpi (cpi (cpi st (a1 + 1) (a0 + 1) (min 800 800)) (a1 + 2) (a0 + 2) (min 2800 2800)) (a1 + 3) (a0 + 3) (min 61 61)) a0 4 (some c2)) a0 5 (gi (ur (cpi (cpi (cpi st (a1 + 1) (a0 + 1) (min 800 800)) (a1 + 2) (a0 + 2) (min 2800 2800)) (a1 + 3) (a0 + 3) (min 61 61)) a0 4 (some c2)) a1 5)) a0 6 (gi (ui (ur (cpi (cpi (cpi st (a1 + 1) (a0 + 1) (min 800 800)) (a1 + 2) (a0 + 2) (min 2800 2800)) (a1 + 3) (a0 + 3) (min 61 61)) a0 4 (some c2)) a0 5 (gi (ur (cpi (cpi (cpi st (a1 + 1) (a0 + 1) (min 800 800)) (a1 + 2) (a0 + 2) (min 2800 2800)) (a1 + 3) (a0 + 3) (min 61 61)) a0 4 (some c2)) a1 5)) a1 6)) a1 7)) a0 8 (gi (ui (ui (ui (ur (cpi (cpi (cpi st (a1 + 1) (a0 + 1) (min 800 800)) (a1 + 2) (a0 + 2) (min 2800 2800)) (a1 + 3) (a0 + 3) (min 61 61)) a0 4 (some c2)) a0 5 (gi (ur (cpi (cpi (cpi st (a1 + 1) (a0 + 1) (min 800 800)) (a1 + 2) (a0 + 2) (min 2800 2800)) (a1 + 3) (a0 + 3) (min 61 61)) a0 4 (some c2)) a1 5)) a0 6 (gi (ui (ur (cpi (cpi (cpi st (a1 + 1) (a0 + 1) (min 800 800)) (a1 + 2) (a0 + 2) (min 2800 2800)) (a1 + 3) (a0 + 3) (min 61 61)) a0 4 (some c2)) a0 5 (gi (ur (cpi (cpi (cpi st (a1 + 1) (a0 + 1) (min 800 800)) (a1 + 2) (a0 + 2) (min 2800 2800)) (a1 + 3) (a0 + 3) (min 61 61)) a0 4 (some c2)) a1 5)) a1 6)) a0 7 (gi (ui (ui (ur (cpi (cpi (cpi st (a1 + 1) (a0 + 1) (min 800 800)) (a1 + 2) (a0 + 2) (min 2800 2800)) (a1 + 3) (a0 + 3) (min 61 61)) a0 4 (some c2)) a0 5 (gi (ur (cpi (cpi (cpi st (a1 + 1) (a0 + 1) (min 800 800)) (a1 + 2) (a0 + 2) (min 2800 2800)) (a1 + 3) (a0 + 3) (min 61 61)) a0 4 (some c2)) a1 5)) a0 6 (gi (ui (ur (cpi (cpi (cpi st (a1 + 1) (a0 + 1) (min 800 800)) (a1 + 2) (a0 + 2) (min 2800 2800)) (a1 + 3) (a0 + 3) (min 61 61)) a0 4 (some c2)) a0 5 (gi (ur (cpi (cpi (cpi st (a1 + 1) (a0 + 1) (min 800 800)) (a1 + 2) (a0 + 2) (min 2800 2800)) (a1 + 3) (a0 + 3) (min 61 61)) a0 4 (some c2)) a1 5)) a1 6)) a1 7)) a1 8)) a1 9)) a1 10)) a1 11)) a1 12)) a0 13 (gl (ui (ui (ui (ui (ui (ui (ui (ui (ur (cpi (cpi (cpi st (a1 + 1) (a0 + 1) (min 800 800)) (a1 + 2) (a0 + 2) (min 2800 2800)) (a1 + 3) (a0 + 3) (min 61 61)) a0 4 (some c2)) a0 5 (gi (ur (cpi (cpi (cpi st (a1 + 1) (a0 + 1) (min 800 800)) (a1 + 2) (a0 + 2) (min 2800 2800)) (a1 + 3) (a0 + 3) (min 61 61)) a0 4 (some c2)) a1 5)) a0 6 (gi (ui (ur (cpi (cpi (cpi st (a1 + 1) (a0 + 1) (min 800 800)) (a1 + 2) (a0 + 2) (min 2800 2800)) (a1 + 3) (a0 + 3) (min 61 61)) a0 4 (some c2)) a0 5 (gi (ur (cpi (cpi (cpi st (a1 + 1) (a0 + 1) (min 800 800)) (a1 + 2) (a0 + 2) (min 2800 2800)) (a1 + 3) (a0 + 3) (min 61 61)) a0 4 (some c2)) a1 5)) a1 6)) a0 7 (gi (ui (ui (ur (cpi (cpi (cpi st (a1 + 1) (a0 + 1) (min 800 800)) (a1 + 2) (a0 + 2) (min 2800 2800)) (a1 + 3) (a0 + 3) (min 61 61)) a0 4 (some c2)) a0 5 (gi (ur (cpi (cpi (cpi st (a1 + 1) (a0 + 1) (min 800 800)) (a1 + 2) (a0 + 2) (min 2800 2800)) (a1 + 3) (a0 + 3) (min 61 61)) a0 4 (some c2)) a1 5)) a0 6 (gi (ui (ur (cpi (cpi (cpi st (a1 + 1) (a0 + 1) (min 800 800)) (a1 + 2) (a0 + 2) (min 2800 2800)) (a1 + 3) (a0 + 3) (min 61 61)) a0 4 (some c2)) a0 5 (gi (ur (cpi (cpi (cpi st (a1 + 1) (a0 + 1) (min 800 800)) (a1 + 2) (a0 + 2) (min 2800 2800)) (a1 + 3) (a0 + 3) (min 61 61)) a0 4 (some c2)) a1 5)) a1 6)) a1 7)) a0 8 (gi (ui (ui (ui (ur (cpi (cpi (cpi st (a1 + 1) (a0 + 1) (min 800 800)) (a1 + 2) (a0 + 2) (min 2800 2800)) (a1 + 3) (a0 + 3) (min 61 61)) a0 4 (some c2)) a0 5 (gi (ur (cpi (cpi (cpi st (a1 + 1) (a0 + 1) (min 800 800)) (a1 + 2) (a0 + 2) (min 2800 2800)) (a1 + 3) (a0 + 3) (min 61 61)) a0 4 (some c2)) a1 5)) a0 6 (gi (ui (ur (cpi (cpi (cpi st (a1 + 1) (a0 + 1) (min 800 800)) (a1 + 2) (a0 + 2) (min 2800 2800)) (a1 + 3) (a0 + 3) (min 61 61)) a0 4 (some c2)) a0 5 (gi (ur (cpi (cpi (cpi st (a1 + 1) (a0 + 1) (min 800 800)) (a1 + 2) (a0 + 2) (min 2800 2800)) (a1 + 3) (a0 + 3) (min 61 61)) a0 4 (some c2)) a1 5)) a1 6)) a0 7 (gi (ui (ui (ur (cpi (cpi (cpi st (a1 + 1) (a0 + 1) (min 800 800)) (a1 + 2) (a0 + 2) (min 2800 2800)) (a1 + 3) (a0 + 3) (min 61 61)) a0 4 (some c2)) a0 5 (gi (ur (cpi (cpi (cpi st (a1 + 1) (a0 + 1) (min 800 800)) (a1 + 2) (a0 + 2) (min 2800 2800)) (a1 + 3) (a0 + 3) (min 61 61)) a0 4 (some c2)) a1 5)) a0 6 (gi (ui (ur (cpi (cpi (cpi st (a1 + 1) (a0 + 1) (min 800 800)) (a1 + 2) (a0 + 2) (min 2800 2800)) (a1 + 3) (a0 + 3) (min 61 61)) a0 4 (some c2)) a0 5 (gi (ur (cpi (cpi (cpi st (a1 + 1) (a0 + 1) (min 800 800)) (a1 + 2) (a0 + 2) (min 2800 2800)) (a1 + 3) (a0 + 3) (min 61 61)) a0 4 (some c2)) a1 5)) a1 6)) a1 7)) a1 8)) a0 9 (gi (ui (ui (ui (ui (ur (cpi (cpi (cpi st (a1 + 1) (a0 + 1) (min 800 800)) (a1 + 2) (a0 + 2) (min 2800 2800)) (a1 + 3) (a0 + 3) (min 61 61)) a0 4 (some c2)) a0 5 (gi (ur (cpi (cpi (cpi st (a1 + 1) (a0 + 1) (min 800 800)) (a1 + 2) (a0 + 2) (min 2800 2800)) (a1 + 3) (a0 + 3) (min 61 61)) a0 4 (some c2)) a1 5)) a0 6 (gi (ui (ur (cpi (cpi (cpi st (a1 + 1) (a0 + 1) (min 800 800)) (a1 + 2) (a0 + 2) (min 2800 2800)) (a1 + 3) (a0 + 3) (min 61 61)) a0 4 (some c2)) a0 5 (gi (ur (cpi (cpi (cpi st (a1 + 1) (a0 + 1) (min 800 800)) (a1 + 2) (a0 + 2) (min 2800 2800)) (a1 + 3) (a0 + 3) (min 61 61)) a0 4 (some c2)) a1 5)) a1 6)) a0 7 (gi (ui (ui (ur (cpi (cpi (cpi st (a1 + 1) (a0 + 1) (min 800 800)) (a1 + 2) (a0 + 2) (min 2800 2800)) (a1 + 3) (a0 + 3) (min 61 61)) a0 4 (some c2)) a0 5 (gi (ur (cpi (cpi (cpi st (a1 + 1) (a0 + 1) (min 800 800)) (a1 + 2) (a0 + 2) (min 2800 2800)) (a1 + 3) (a0 + 3) (min 61 61)) a0 4 (some c2)) a1 5)) a0 6 (gi (ui (ur (cpi (cpi (cpi st (a1 + 1) (a0 + 1) (min 800 800)) (a1 + 2) (a0 + 2) (min 2800 2800)) (a1 + 3) (a0 + 3) (min 61 61)) a0 4 (some c2)) a0 5 (gi (ur (cpi (cpi (cpi st (a1 + 1) (a0 + 1) (min 800 800)) (a1 + 2) (a0 + 2) (min 2800 2800)) (a1 + 3) (a0 + 3) (min 61 61)) a0 4 (some c2)) a1 5)) a1 6)) a1 7)) a0 8 (gi (ui (ui (ui (ur (cpi (cpi (cpi st (a1 + 1) (a0 + 1) (min 800 800)) (a1 + 2) (a0 + 2) (min 2800 2800)) (a1 + 3) (a0 + 3) (min 61 61)) a0 4 (some c2)) a0 5 (gi (ur (cpi (cpi (cpi st (a1 + 1) (a0 + 1) (min 800 800)) (a1 + 2) (a0 + 2) (min 2800 2800)) (a1 + 3) (a0 + 3) (min 61 61)) a0 4 (some c2)) a1 5)) a0 6 (gi (ui (ur (cpi (cpi (cpi st (a1 + 1) (a0 + 1) (min 800 800)) (a1 + 2) (a0 + 2) (min 2800 2800)) (a1 + 3) (a0 + 3) (min 61 61)) a0 4 (some c2)) a0 5 (gi (ur (cpi (cpi (cpi st (a1 + 1) (a0 + 1) (min 800 800)) (a1 + 2) (a0 + 2) (min 2800 2800)) (a1 + 3) (a0 + 3) (min 61 61)) a0 4 (some c2)) a1 5)) a1 6)) a0 7 (gi (ui (ui (ur (cpi (cpi (cpi st (a1 + 1) (a0 + 1) (min 800 800)) (a1 + 2) (a0 + 2) (min 2800 2800)) (a1 + 3) (a0 + 3) (min 61 61)) a0 4 (some c2)) a0 5 (gi (ur (cpi (cpi (cpi st (a1 + 1) (a0 + 1) (min 800 800)) (a1 + 2) (a0 + 2) (min 2800 2800)) (a1 + 3) (a0 + 3) (min 61 61)) a0 4 (some c2)) a1 5)) a0 6 (gi (ui (ur (cpi (cpi (cpi st (a1 + 1) (a0 + 1) (min 800 800)) (a1 + 2) (a0 + 2) (min 2800 2800)) (a1 + 3) (a0 + 3) (min 61 61)) a0 4 (some c2)) a0 5 (gi (ur (cpi (cpi (cpi st (a1 + 1) (a0 + 1) (min 800 800)) (a1 + 2) (a0 + 2) (min 2800 2800)) (a1 + 3) (a0 + 3) (min 61 61)) a0 4 (some c2)) a1 5)) a1 6)) a1 7)) a1 8)) a1 9)) a0 10 (gi (ui (ui (ui (ui (ui (ur (cpi (cpi (cpi st (a1 + 1) (a0 + 1) (min 800 800)) (a1 + 2) (a0 + 2) (min 2800 2800)) (a1 + 3) (a0 + 3) (min 61 61)) a0 4 (some c2)) a0 5 (gi (ur (cpi (cpi (cpi st (a1 + 1) (a0 + 1) (min 800 800)) (a1 + 2) (a0 + 2) (min 2800 2800)) (a1 + 3) (a0 + 3) (min 61 61)) a0 4 (some c2)) a1 5)) a0 6 (gi (ui (ur (cpi (cpi (cpi st (a1 + 1) (a0 + 1) (min 800 800)) (a1 + 2) (a0 + 2) (min 2800 2800)) (a1 + 3) (a0 + 3) (min 61 61)) a0 4 (some c2)) a0 5 (gi (ur (cpi (cpi (cpi st (a1 + 1) (a0 + 1) (min 800 800)) (a1 + 2) (a0 + 2) (min 2800 2800)) (a1 + 3) (a0 + 3) (min 61 61)) a0 4 (some c2)) a1 5)) a1 6)) a0 7 (gi (ui (ui (ur (cpi (cpi (cpi st (a1 + 1) (a0 + 1) (min 800 800)) (a1 + 2) (a0 + 2) (min 2800 2800)) (a1 + 3) (a0 + 3) (min 61 61)) a0 4 (some c2)) a0 5 (gi (ur (cpi (cpi (cpi st (a1 + 1) (a0 + 1) (min 800 800)) (a1 + 2) (a0 + 2) (min 2800 2800)) (a1 + 3) (a0 + 3) (min 61 61)) a0 4 (some c2)) a1 5)) a0 6 (gi (ui (ur (cpi (cpi (cpi st (a1 + 1) (a0 + 1) (min 800 800)) (a1 + 2) (a0 + 2) (min 2800 2800)) (a1 + 3) (a0 + 3) (min 61 61)) a0 4 (some c2)) a0 5 (gi (ur (cpi (cpi (cpi st (a1 + 1) (a0 + 1) (min 800 800)) (a1 + 2) (a0 + 2) (min 2800 2800)) (a1 + 3) (a0 + 3) (min 61 61)) a0 4 (some c2)) a1 5)) a1 6)) a1 7)) a0 8 (gi (ui (ui (ui (ur (cpi (cpi (cpi st (a1 + 1) (a0 + 1) (min 800 800)) (a1 + 2) (a0 + 2) (min 2800 2800)) (a1 + 3) (a0 + 3) (min 61 61)) a0 4 (some c2)) a0 5 (gi (ur (cpi (cpi (cpi st (a1 + 1) (a0 + 1) (min 800 800)) (a1 + 2) (a0 + 2) (min 2800 2800)) (a1 + 3) (a0 + 3) (min 61 61)) a0 4 (some c2)) a1 5)) a0 6 (gi (ui (ur (cpi (cpi (cpi st (a1 + 1) (a0 + 1) (min 800 800)) (a1 + 2) (a0 + 2) (min 2800 2800)) (a1 + 3) (a0 + 3) (min 61 61)) a0 4 (some c2)) a0 5 (gi (ur (cpi (cpi (cpi st (a1 + 1) (a0 + 1) (min 800 800)) (a1 + 2) (a0 + 2) (min 2800 2800)) (a1 + 3) (a0 + 3) (min 61 61)) a0 4 (some c2)) a1 5)) a1 6)) a0 7 (gi (ui (ui (ur (cpi (cpi (cpi st (a1 + 1) (a0 + 1) (min 800 800)) (a1 + 2) (a0 + 2) (min 2800 2800)) (a1 + 3) (a0 + 3) (min 61 61)) a0 4 (some c2)) a0 5 (gi (ur (cpi (cpi (cpi st (a1 + 1) (a0 + 1) (min 800 800)) (a1 + 2) (a0 + 2) (min 2800 2800)) (a1 + 3) (a0 + 3) (min 61 61)) a0 4 (some c2)) a1 5)) a0 6 (gi (ui (ur (cpi (cpi (cpi st (a1 + 1) (a0 + 1) (min 800 800)) (a1 + 2) (a0 + 2) (min 2800 2800)) (a1 + 3) (a0 + 3) (min 61 61)) a0 4 (some c2)) a0 5 (gi (ur (cpi (cpi (cpi st (a1 + 1) (a0 + 1) (min 800 800)) (a1 + 2) (a0 + 2) (min 2800 2800)) (a1 + 3) (a0 + 3) (min 61 61)) a0 4 (some c2)) a1 5)) a1 6)) a1 7)) a1 8)) a0 9 (gi (ui (ui (ui (ui (ur (cpi (cpi (cpi st (a1 + 1) (a0 + 1) (min 800 800)) (a1 + 2) (a0 + 2) (min 2800 2800)) (a1 + 3) (a0 + 3) (min 61 61)) a0 4 (some c2)) a0 5 (gi (ur (cpi (cpi (cpi st (a1 + 1) (a0 + 1) (min 800 800)) (a1 + 2) (a0 + 2) (min 2800 2800)) (a1 + 3) (a0 + 3) (min 61 61)) a0 4 (some c2)) a1 5)) a0 6 (gi (ui (ur (cpi (cpi (cpi st (a1 + 1) (a0 + 1) (min 800 800)) (a1 + 2) (a0 + 2) (min 2800 2800)) (a1 + 3) (a0 + 3) (min 61 61)) a0 4 (some c2)) a0 5 (gi (ur (cpi (cpi (cpi st (a1 + 1) (a0 + 1) (min 800 800)) (a1 + 2) (a0 + 2) (min 2800 2800)) (a1 + 3) (a0 + 3) (min 61 61)) a0 4 (some c2)) a1 5)) a1 6)) a0 7 (gi (ui (ui (ur (cpi (cpi (cpi st (a1 + 1) (a0 + 1) (min 800 800)) (a1 + 2) (a0 + 2) (min 2800 2800)) (a1 + 3) (a0 + 3) (min 61 61)) a0 4 (some c2)) a0 5 (gi (ur (cpi (cpi (cpi st (a1 + 1) (a0 + 1) (min 800 800)) (a1 + 2) (a0 + 2) (min 2800 2800)) (a1 + 3) (a0 + 3) (min 61 61)) a0 4 (some c2)) a1 5)) a0 6 (gi (ui (ur (cpi (cpi (cpi st (a1 + 1) (a0 + 1) (min 800 800)) (a1 + 2) (a0 + 2) (min 2800 2800)) (a1 + 3) (a0 + 3) (min 61 61)) a0 4 (some c2)) a0 5 (gi (ur (cpi (cpi (cpi st (a1 + 1) (a0 + 1) (min 800 800)) (a1 + 2) (a0 + 2) (min 2800 2800)) (a1 + 3) (a0 + 3) (min 61 61)) a0 4 (some c2)) a1 5)) a1 6)) a1 7)) a0 8 (gi (ui (ui (ui (ur (cpi (cpi (cpi st (a1 + 1) (a0 + 1) (min 800 800)) (a1 + 2) (a0 + 2) (min 2800 2800)) (a1 + 3) (a0 + 3) (min 61 61)) a0 4 (some c2)) a0 5 (gi (ur (cpi (cpi (cpi st (a1 + 1) (a0 + 1) (min 800 800)) (a1 + 2) (a0 + 2) (min 2800 2800)) (a1 + 3) (a0 + 3) (min 61 61)) a0 4 (some c2)) a1 5)) a0 6 (gi (ui (ur (cpi (cpi (cpi st (a1 + 1) (a0 + 1) (min 800 800)) (a1 + 2) (a0 + 2) (min 2800 2800)) (a1 + 3) (a0 + 3) (min 61 61)) a0 4 (some c2)) a0 5 (gi (ur (cpi (cpi (cpi st (a1 + 1) (a0 + 1) (min 800 800)) (a1 + 2) (a0 + 2) (min 2800 2800)) (a1 + 3) (a0 + 3) (min 61 61)) a0 4 (some c2)) a1 5)) a1 6)) a0 7 (gi (ui (ui (ur (cpi (cpi (cpi st (a1 + 1) (a0 + 1) (min 800 800)) (a1 + 2) (a0 + 2) (min 2800 2800)) (a1 + 3) (a0 + 3) (min 61 61)) a0 4 (some c2)) a0 5 (gi (ur (cpi (cpi (cpi st (a1 + 1) (a0 + 1) (min 800 800)) (a1 + 2) (a0 + 2) (min 2800 2800)) (a1 + 3) (a0 + 3) (min 61 61)) a0 4 (some c2)) a1 5)) a0 6 (gi (ui (ur (cpi (cpi (cpi st (a1 + 1) (a0 + 1) (min 800 800)) (a1 + 2) (a0 + 2) (min 2800 2800)) (a1 + 3) (a0 + 3) (min 61 61)) a0 4 (some c2)) a0 5 (gi (ur (cpi (cpi (cpi st (a1 + 1) (a0 + 1) (min 800 800)) (a1 + 2) (a0 + 2) (min 2800 2800)) (a1 + 3) (a0 + 3) (min 61 61)) a0 4 (some c2)) a1 5)) a1 6)) a1 7)) a1 8)) a1 9)) a1 10)) a0 11 (gi (ui (ui (ui (ui (ui (ui (ur (cpi (cpi (cpi st (a1 + 1) (a0 + 1) (min 800 800)) (a1 + 2) (a0 + 2) (min 2800 2800)) (a1 + 3) (a0 + 3) (min 61 61)) a0 4 (some c2)) a0 5 (gi (ur (cpi (cpi (cpi st (a1 + 1) (a0 + 1) (min 800 800)) (a1 + 2) (a0 + 2) (min 2800 2800)) (a1 + 3) (a0 + 3) (min 61 61)) a0 4 (some c2)) a1 5)) a0 6 (gi (ui (ur (cpi (cpi (cpi st (a1 + 1) (a0 + 1) (min 800 800)) (a1 + 2) (a0 + 2) (min 2800 2800)) (a1 + 3) (a0 + 3) (min 61 61)) a0 4 (some c2)) a0 5 (gi (ur (cpi (cpi (cpi st (a1 + 1) (a0 + 1) (min 800 800)) (a1 + 2) (a0 + 2) (min 2800 2800)) (a1 + 3) (a0 + 3) (min 61 61)) a0 4 (some c2)) a1 5)) a1 6)) a0 7 (gi (ui (ui (ur (cpi (cpi (cpi st (a1 + 1) (a0 + 1) (min 800 800)) (a1 + 2) (a0 + 2) (min 2800 2800)) (a1 + 3) (a0 + 3) (min 61 61)) a0 4 (some c2)) a0 5 (gi (ur (cpi (cpi (cpi st (a1 + 1) (a0 + 1) (min 800 800)) (a1 + 2) (a0 + 2) (min 2800 2800)) (a1 + 3) (a0 + 3) (min 61 61)) a0 4 (some c2)) a1 5)) a0 6 (gi (ui (ur (cpi (cpi (cpi st (a1 + 1) (a0 + 1) (min 800 800)) (a1 + 2) (a0 + 2) (min 2800 2800)) (a1 + 3) (a0 + 3) (min 61 61)) a0 4 (some c2)) a0 5 (gi (ur (cpi (cpi (cpi st (a1 + 1) (a0 + 1) (min 800 800)) (a1 + 2) (a0 + 2) (min 2800 2800)) (a1 + 3) (a0 + 3) (min 61 61)) a0 4 (some c2)) a1 5)) a1 6)) a1 7)) a0 8 (gi (ui (ui (ui (ur (cpi (cpi (cpi st (a1 + 1) (a0 + 1) (min 800 800)) (a1 + 2) (a0 + 2) (min 2800 2800)) (a1 + 3) (a0 + 3) (min 61 61)) a0 4 (some c2)) a0 5 (gi (ur (cpi (cpi (cpi st (a1 + 1) (a0 + 1) (min 800 800)) (a1 + 2) (a0 + 2) (min 2800 2800)) (a1 + 3) (a0 + 3) (min 61 61)) a0 4 (some c2)) a1 5)) a0 6 (gi (ui (ur (cpi (cpi (cpi st (a1 + 1) (a0 + 1) (min 800 800)) (a1 + 2) (a0 + 2) (min 2800 2800)) (a1 + 3) (a0 + 3) (min 61 61)) a0 4 (some c2)) a0 5 (gi (ur (cpi (cpi (cpi st (a1 + 1) (a0 + 1) (min 800 800)) (a1 + 2) (a0 + 2) (min 2800 2800)) (a1 + 3) (a0 + 3) (min 61 61)) a0 4 (some c2)) a1 5)) a1 6)) a0 7 (gi (ui (ui (ur (cpi (cpi (cpi st (a1 + 1) (a0 + 1) (min 800 800)) (a1 + 2) (a0 + 2) (min 2800 2800)) (a1 + 3) (a0 + 3) (min 61 61)) a0 4 (some c2)) a0 5 (gi (ur (cpi (cpi (cpi st (a1 + 1) (a0 + 1) (min 800 800)) (a1 + 2) (a0 + 2) (min 2800 2800)) (a1 + 3) (a0 + 3) (min 61 61)) a0 4 (some c2)) a1 5)) a0 6 (gi (ui (ur (cpi (cpi (cpi st (a1 + 1) (a0 + 1) (min 800 800)) (a1 + 2) (a0 + 2) (min 2800 2800)) (a1 + 3) (a0 + 3) (min 61 61)) a0 4 (some c2)) a0 5 (gi (ur (cpi (cpi (cpi st (a1 + 1) (a0 + 1) (min 800 800)) (a1 + 2) (a0 + 2) (min 2800 2800)) (a1 + 3) (a0 + 3) (min 61 61)) a0 4 (some c2)) a1 5)) a1 6)) a1 7)) a1 8)) a0 9 (gi (ui (ui (ui (ui (ur (cpi (cpi (cpi st (a1 + 1) (a0 + 1) (min 800 800)) (a1 + 2) (a0 + 2) (min 2800 2800)) (a1 + 3) (a0 + 3) (min 61 61)) a0 4 (some c2)) a0 5 (gi (ur (cpi (cpi (cpi st (a1 + 1) (a0 + 1) (min 800 800)) (a1 + 2) (a0 + 2) (min 2800 2800)) (a1 + 3) (a0 + 3) (min 61 61)) a0 4 (some c2)) a1 5)) a0 6 (gi (ui (ur (cpi (cpi (cpi st (a1 + 1) (a0 + 1) (min 800 800)) (a1 + 2) (a0 + 2) (min 2800 2800)) (a1 + 3) (a0 + 3) (min 61 61)) a0 4 (some c2)) a0 5 (gi (ur (cpi (cpi (cpi st (a1 + 1) (a0 + 1) (min 800 800)) (a1 + 2) (a0 + 2) (min 2800 2800)) (a1 + 3) (a0 + 3) (min 61 61)) a0 4 (some c2)) a1 5)) a1 6)) a0 7 (gi (ui (ui (ur (cpi (cpi (cpi st (a1 + 1) (a0 + 1) (min 800 800)) (a1 + 2) (a0 + 2) (min 2800 2800)) (a1 + 3) (a0 + 3) (min 61 61)) a0 4 (some c2)) a0 5 (gi (ur (cpi (cpi (cpi st (a1 + 1) (a0 + 1) (min 800 800)) (a1 + 2) (a0 + 2) (min 2800 2800)) (a1 + 3) (a0 + 3) (min 61 61)) a0 4 (some c2)) a1 5)) a0 6 (gi (ui (ur (cpi (cpi (cpi st (a1 + 1) (a0 + 1) (min 800 800)) (a1 + 2) (a0 + 2) (min 2800 2800)) (a1 + 3) (a0 + 3) (min 61 61)) a0 4 (some c2)) a0 5 (gi (ur (cpi (cpi (cpi st (a1 + 1) (a0 + 1) (min 800 800)) (a1 + 2) (a0 + 2) (min 2800 2800)) (a1 + 3) (a0 + 3) (min 61 61)) a0 4 (some c2)) a1 5)) a1 6)) a1 7)) a0 8 (gi (ui (ui (ui (ur (cpi (cpi (cpi st (a1 + 1) (a0 + 1) (min 800 800)) (a1 + 2) (a0 + 2) (min 2800 2800)) (a1 + 3) (a0 + 3) (min 61 61)) a0 4 (some c2)) a0 5 (gi (ur (cpi (cpi (cpi st (a1 + 1) (a0 + 1) (min 800 800)) (a1 + 2) (a0 + 2) (min 2800 2800)) (a1 + 3) (a0 + 3) (min 61 61)) a0 4 (some c2)) a1 5)) a0 6 (gi (ui (ur (cpi (cpi (cpi st (a1 + 1) (a0 + 1) (min 800 800)) (a1 + 2) (a0 + 2) (min 2800 2800)) (a1 + 3) (a0 + 3) (min 61 61)) a0 4 (some c2)) a0 5 (gi (ur (cpi (cpi (cpi st (a1 + 1) (a0 + 1) (min 800 800)) (a1 + 2) (a0 + 2) (min 2800 2800)) (a1 + 3) (a0 + 3) (min 61 61)) a0 4 (some c2)) a1 5)) a1 6)) a0 7 (gi (ui (ui (ur (cpi (cpi (cpi st (a1 + 1) (a0 + 1) (min 800 800)) (a1 + 2) (a0 + 2) (min 2800 2800)) (a1 + 3) (a0 + 3) (min 61 61)) a0 4 (some c2)) a0 5 (gi (ur (cpi (cpi (cpi st (a1 + 1) (a0 + 1) (min 800 800)) (a1 + 2) (a0 + 2) (min 2800 2800)) (a1 + 3) (a0 + 3) (min 61 61)) a0 4 (some c2)) a1 5)) a0 6 (gi (ui (ur (cpi (cpi (cpi st (a1 + 1) (a0 + 1) (min 800 800)) (a1 + 2) (a0 + 2) (min 2800 2800)) (a1 + 3) (a0 + 3) (min 61 61)) a0 4 (some c2)) a0 5 (gi (ur (cpi (cpi (cpi st (a1 + 1) (a0 + 1) (min 800 800)) (a1 + 2) (a0 + 2) (min 2800 2800)) (a1 + 3) (a0 + 3) (min 61 61)) a0 4 (some c2)) a1 5)) a1 6)) a1 7)) a1 8)) a1 9)) a0 10 (gi (ui (ui (ui (ui (ui (ur (cpi (cpi (cpi st (a1 + 1) (a0 + 1) (min 800 800)) (a1 + 2) (a0 + 2) (min 2800 2800)) (a1 + 3) (a0 + 3) (min 61 61)) a0 4 (some c2)) a0 5 (gi (ur (cpi (cpi (cpi st (a1 + 1) (a0 + 1) (min 800 800)) (a1 + 2) (a0 + 2) (min 2800 2800)) (a1 + 3) (a0 + 3) (min 61 61)) a0 4 (some c2)) a1 5)) a0 6 (gi (ui (ur (cpi (cpi (cpi st (a1 + 1) (a0 + 1) (min 800 800)) (a1 + 2) (a0 + 2) (min 2800 2800)) (a1 + 3) (a0 + 3) (min 61 61)) a0 4 (some c2)) a0 5 (gi (ur (cpi (cpi (cpi st (a1 + 1) (a0 + 1) (min 800 800)) (a1 + 2) (a0 + 2) (min 2800 2800)) (a1 + 3) (a0 + 3) (min 61 61)) a0 4 (some c2)) a1 5)) a1 6)) a0 7 (gi (ui (ui (ur (cpi (cpi (cpi st (a1 + 1) (a0 + 1) (min 800 800)) (a1 + 2) (a0 + 2) (min 2800 2800)) (a1 + 3) (a0 + 3) (min 61 61)) a0 4 (some c2)) a0 5 (gi (ur (cpi (cpi (cpi st (a1 + 1) (a0 + 1) (min 800 800)) (a1 + 2) (a0 + 2) (min 2800 2800)) (a1 + 3) (a0 + 3) (min 61 61)) a0 4 (some c2)) a1 5)) a0 6 (gi (ui (ur (cpi (cpi (cpi st (a1 + 1) (a0 + 1) (min 800 800)) (a1 + 2) (a0 + 2) (min 2800 2800)) (a1 + 3) (a0 + 3) (min 61 61)) a0 4 (some c2)) a0 5 (gi (ur (cpi (cpi (cpi st (a1 + 1) (a0 + 1) (min 800 800)) (a1 + 2) (a0 + 2) (min 2800 2800)) (a1 + 3) (a0 + 3) (min 61 61)) a0 4 (some c2)) a1 5)) a1 6)) a1 7)) a0 8 (gi (ui (ui (ui (ur (cpi (cpi (cpi st (a1 + 1) (a0 + 1) (min 800 800)) (a1 + 2) (a0 + 2) (min 2800 2800)) (a1 + 3) (a0 + 3) (min 61 61)) a0 4 (some c2)) a0 5 (gi (ur (cpi (cpi (cpi st (a1 + 1) (a0 + 1) (min 800 800)) (a1 + 2) (a0 + 2) (min 2800 2800)) (a1 + 3) (a0 + 3) (min 61 61)) a0 4 (some c2)) a1 5)) a0 6 (gi (ui (ur (cpi (cpi (cpi st (a1 + 1) (a0 + 1) (min 800 800)) (a1 + 2) (a0 + 2) (min 2800 2800)) (a1 + 3) (a0 + 3) (min 61 61)) a0 4 (some c2)) a0 5 (gi (ur (cpi (cpi (cpi st (a1 + 1) (a0 + 1) (min 800 800)) (a1 + 2) (a0 + 2) (min 2800 2800)) (a1 + 3) (a0 + 3) (min 61 61)) a0 4 (some c2)) a1 5)) a1 6)) a0 7 (gi (ui (ui (ur (cpi (cpi (cpi st (a1 + 1) (a0 + 1) (min 800 800)) (a1 + 2) (a0 + 2) (min 2800 2800)) (a1 + 3) (a0 + 3) (min 61 61)) a0 4 (some c2)) a0 5 (gi (ur (cpi (cpi (cpi st (a1 + 1) (a0 + 1) (min 800 800)) (a1 + 2) (a0 + 2) (min 2800 2800)) (a1 + 3) (a0 + 3) (min 61 61)) a0 4 (some c2)) a1 5)) a0 6 (gi (ui (ur (cpi (cpi (cpi st (a1 + 1) (a0 + 1) (min 800 800)) (a1 + 2) (a0 + 2) (min 2800 2800)) (a1 + 3) (a0 + 3) (min 61 61)) a0 4 (some c2)) a0 5 (gi (ur (cpi (cpi (cpi st (a1 + 1) (a0 + 1) (min 800 800)) (a1 + 2) (a0 + 2) (min 2800 2800)) (a1 + 3) (a0 + 3) (min 61 61)) a0 4 (some c2)) a1 5)) a1 6)) a1 7)) a1 8)) a0 9 (gi (ui (ui (ui (ui (ur (cpi (cpi (cpi st (a1 + 1) (a0 + 1) (min 800 800)) (a1 + 2) (a0 + 2) (min 2800 2800)) (a1 + 3) (a0 + 3) (min 61 61)) a0 4 (some c2)) a0 5 (gi (ur (cpi (cpi (cpi st (a1 + 1) (a0 + 1) (min 800 800)) (a1 + 2) (a0 + 2) (min 2800 2800)) (a1 + 3) (a0 + 3) (min 61 61)) a0 4 (some c2)) a1 5)) a0 6 (gi (ui (ur (cpi (cpi (cpi st (a1 + 1) (a0 + 1) (min 800 800)) (a1 + 2) (a0 + 2) (min 2800 2800)) (a1 + 3) (a0 + 3) (min 61 61)) a0 4 (some c2)) a0 5 (gi (ur (cpi (cpi (cpi st (a1 + 1) (a0 + 1) (min 800 800)) (a1 + 2) (a0 + 2) (min 2800 2800)) (a1 + 3) (a0 + 3) (min 61 61)) a0 4 (some c2)) a1 5)) a1 6)) a0 7 (gi (ui (ui (ur (cpi (cpi (cpi st (a1 + 1) (a0 + 1) (min 800 800)) (a1 + 2) (a0 + 2) (min 2800 2800)) (a1 + 3) (a0 + 3) (min 61 61)) a0 4 (some c2)) a0 5 (gi (ur (cpi (cpi (cpi st (a1 + 1) (a0 + 1) (min 800 800)) (a1 + 2) (a0 + 2) (min 2800 2800)) (a1 + 3) (a0 + 3) (min 61 61)) a0 4 (some c2)) a1 5)) a0 6 (gi (ui (ur (cpi (cpi (cpi st (a1 + 1) (a0 + 1) (min 800 800)) (a1 + 2) (a0 + 2) (min 2800 2800)) (a1 + 3) (a0 + 3) (min 61 61)) a0 4 (some c2)) a0 5 (gi (ur (cpi (cpi (cpi st (a1 + 1) (a0 + 1) (min 800 800)) (a1 + 2) (a0 + 2) (min 2800 2800)) (a1 + 3) (a0 + 3) (min 61 61)) a0 4 (some c2)) a1 5)) a1 6)) a1 7)) a0 8 (gi (ui (ui (ui (ur (cpi (cpi (cpi st (a1 + 1) (a0 + 1) (min 800 800)) (a1 + 2) (a0 + 2) (min 2800 2800)) (a1 + 3) (a0 + 3) (min 61 61)) a0 4 (some c2)) a0 5 (gi (ur (cpi (cpi (cpi st (a1 + 1) (a0 + 1) (min 800 800)) (a1 + 2) (a0 + 2) (min 2800 2800)) (a1 + 3) (a0 + 3) (min 61 61)) a0 4 (some c2)) a1 5)) a0 6 (gi (ui (ur (cpi (cpi (cpi st (a1 + 1) (a0 + 1) (min 800 800)) (a1 + 2) (a0 + 2) (min 2800 2800)) (a1 + 3) (a0 + 3) (min 61 61)) a0 4 (some c2)) a0 5 (gi (ur (cpi (cpi (cpi st (a1 + 1) (a0 + 1) (min 800 800)) (a1 + 2) (a0 + 2) (min 2800 2800)) (a1 + 3) (a0 + 3) (min 61 61)) a0 4 (some c2)) a1 5)) a1 6)) a0 7 (gi (ui (ui (ur (cpi (cpi (cpi st (a1 + 1) (a0 + 1) (min 800 800)) (a1 + 2) (a0 + 2) (min 2800 2800)) (a1 + 3) (a0 + 3) (min 61 61)) a0 4 (some c2)) a0 5 (gi (ur (cpi (cpi (cpi st (a1 + 1) (a0 + 1) (min 800 800)) (a1 + 2) (a0 + 2) (min 2800 2800)) (a1 + 3) (a0 + 3) (min 61 61)) a0 4 (some c2)) a1 5)) a0 6 (gi (ui (ur (cpi (cpi (cpi st (a1 + 1) (a0 + 1) (min 800 800)) (a1 + 2) (a0 + 2) (min 2800 2800)) (a1 + 3) (a0 + 3) (min 61 61)) a0 4 (some c2)) a0 5 (gi (ur (cpi (cpi (cpi st (a1 + 1) (a0 + 1) (min 800 800)) (a1 + 2) (a0 + 2) (min 2800 2800)) (a1 + 3) (a0 + 3) (min 61 61)) a0 4 (some c2)) a1 5)) a1 6)) a1 7)) a1 8)) a1 9)) a1 10)) a1 11)) a0 12 (gi (ui (ui (ui (ui (ui (ui (ui (ur (cpi (cpi (cpi st (a1 + 1) (a0 + 1) (min 800 800)) (a1 + 2) (a0 + 2) (min 2800 2800)) (a1 + 3) (a0 + 3) (min 61 61)) a0 4 (some c2)) a0 5 (gi (ur (cpi (cpi (cpi st (a1 + 1) (a0 + 1) (min 800 800)) (a1 + 2) (a0 + 2) (min 2800 2800)) (a1 + 3) (a0 + 3) (min 61 61)) a0 4 (some c2)) a1 5)) a0 6 (gi (ui (ur (cpi (cpi (cpi st (a1 + 1) (a0 + 1) (min 800 800)) (a1 + 2) (a0 + 2) (min 2800 2800)) (a1 + 3) (a0 + 3) (min 61 61)) a0 4 (some c2)) a0 5 (gi (ur (cpi (cpi (cpi st (a1 + 1) (a0 + 1) (min 800 800)) (a1 + 2) (a0 + 2) (min 2800 2800)) (a1 + 3) (a0 + 3) (min 61 61)) a0 4 (some c2)) a1 5)) a1 6)) a0 7 (gi (ui (ui (ur (cpi (cpi (cpi st (a1 + 1) (a0 + 1) (min 800 800)) (a1 + 2) (a0 + 2) (min 2800 2800)) (a1 + 3) (a0 + 3) (min 61 61)) a0 4 (some c2)) a0 5 (gi (ur (cpi (cpi (cpi st (a1 + 1) (a0 + 1) (min 800 800)) (a1 + 2) (a0 + 2) (min 2800 2800)) (a1 + 3) (a0 + 3) (min 61 61)) a0 4 (some c2)) a1 5)) a0 6 (gi (ui (ur (cpi (cpi (cpi st (a1 + 1) (a0 + 1) (min 800 800)) (a1 + 2) (a0 + 2) (min 2800 2800)) (a1 + 3) (a0 + 3) (min 61 61)) a0 4 (some c2)) a0 5 (gi (ur (cpi (cpi (cpi st (a1 + 1) (a0 + 1) (min 800 800)) (a1 + 2) (a0 + 2) (min 2800 2800)) (a1 + 3) (a0 + 3) (min 61 61)) a0 4 (some c2)) a1 5)) a1 6)) a1 7)) a0 8 (gi (ui (ui (ui (ur (cpi (cpi (cpi st (a1 + 1) (a0 + 1) (min 800 800)) (a1 + 2) (a0 + 2) (min 2800 2800)) (a1 + 3) (a0 + 3) (min 61 61)) a0 4 (some c2)) a0 5 (gi (ur (cpi (cpi (cpi st (a1 + 1) (a0 + 1) (min 800 800)) (a1 + 2) (a0 + 2) (min 2800 2800)) (a1 + 3) (a0 + 3) (min 61 61)) a0 4 (some c2)) a1 5)) a0 6 (gi (ui (ur (cpi (cpi (cpi st (a1 + 1) (a0 + 1) (min 800 800)) (a1 + 2) (a0 + 2) (min 2800 2800)) (a1 + 3) (a0 + 3) (min 61 61)) a0 4 (some c2)) a0 5 (gi (ur (cpi (cpi (cpi st (a1 + 1) (a0 + 1) (min 800 800)) (a1 + 2) (a0 + 2) (min 2800 2800)) (a1 + 3) (a0 + 3) (min 61 61)) a0 4 (some c2)) a1 5)) a1 6)) a0 7 (gi (ui (ui (ur (cpi (cpi (cpi st (a1 + 1) (a0 + 1) (min 800 800)) (a1 + 2) (a0 + 2) (min 2800 2800)) (a1 + 3) (a0 + 3) (min 61 61)) a0 4 (some c2)) a0 5 (gi (ur (cpi (cpi (cpi st (a1 + 1) (a0 + 1) (min 800 800)) (a1 + 2) (a0 + 2) (min 2800 2800)) (a1 + 3) (a0 + 3) (min 61 61)) a0 4 (some c2)) a1 5)) a0 6 (gi (ui (ur (cpi (cpi (cpi st (a1 + 1) (a0 + 1) (min 800 800)) (a1 + 2) (a0 + 2) (min 2800 2800)) (a1 + 3) (a0 + 3) (min 61 61)) a0 4 (some c2)) a0 5 (gi (ur (cpi (cpi (cpi st (a1 + 1) (a0 + 1) (min 800 800)) (a1 + 2) (a0 + 2) (min 2800 2800)) (a1 + 3) (a0 + 3) (min 61 61)) a0 4 (some c2)) a1 5)) a1 6)) a1 7)) a1 8)) a0 9 (gi (ui (ui (ui (ui (ur (cpi (cpi (cpi st (a1 + 1) (a0 + 1) (min 800 800)) (a1 + 2) (a0 + 2) (min 2800 2800)) (a1 + 3) (a0 + 3) (min 61 61)) a0 4 (some c2)) a0 5 (gi (ur (cpi (cpi (cpi st (a1 + 1) (a0 + 1) (min 800 800)) (a1 + 2) (a0 + 2) (min 2800 2800)) (a1 + 3) (a0 + 3) (min 61 61)) a0 4 (some c2)) a1 5)) a0 6 (gi (ui (ur (cpi (cpi (cpi st (a1 + 1) (a0 + 1) (min 800 800)) (a1 + 2) (a0 + 2) (min 2800 2800)) (a1 + 3) (a0 + 3) (min 61 61)) a0 4 (some c2)) a0 5 (gi (ur (cpi (cpi (cpi st (a1 + 1) (a0 + 1) (min 800 800)) (a1 + 2) (a0 + 2) (min 2800 2800)) (a1 + 3) (a0 + 3) (min 61 61)) a0 4 (some c2)) a1 5)) a1 6)) a0 7 (gi (ui (ui (ur (cpi (cpi (cpi st (a1 + 1) (a0 + 1) (min 800 800)) (a1 + 2) (a0 + 2) (min 2800 2800)) (a1 + 3) (a0 + 3) (min 61 61)) a0 4 (some c2)) a0 5 (gi (ur (cpi (cpi (cpi st (a1 + 1) (a0 + 1) (min 800 800)) (a1 + 2) (a0 + 2) (min 2800 2800)) (a1 + 3) (a0 + 3) (min 61 61)) a0 4 (some c2)) a1 5)) a0 6 (gi (ui (ur (cpi (cpi (cpi st (a1 + 1) (a0 + 1) (min 800 800)) (a1 + 2) (a0 + 2) (min 2800 2800)) (a1 + 3) (a0 + 3) (min 61 61)) a0 4 (some c2)) a0 5 (gi (ur (cpi (cpi (cpi st (a1 + 1) (a0 + 1) (min 800 800)) (a1 + 2) (a0 + 2) (min 2800 2800)) (a1 + 3) (a0 + 3) (min 61 61)) a0 4 (some c2)) a1 5)) a1 6)) a1 7)) a0 8 (gi (ui (ui (ui (ur (cpi (cpi (cpi st (a1 + 1) (a0 + 1) (min 800 800)) (a1 + 2) (a0 + 2) (min 2800 2800)) (a1 + 3) (a0 + 3) (min 61 61)) a0 4 (some c2)) a0 5 (gi (ur (cpi (cpi (cpi st (a1 + 1) (a0 + 1) (min 800 800)) (a1 + 2) (a0 + 2) (min 2800 2800)) (a1 + 3) (a0 + 3) (min 61 61)) a0 4 (some c2)) a1 5)) a0 6 (gi (ui (ur (cpi (cpi (cpi st (a1 + 1) (a0 + 1) (min 800 800)) (a1 + 2) (a0 + 2) (min 2800 2800)) (a1 + 3) (a0 + 3) (min 61 61)) a0 4 (some c2)) a0 5 (gi (ur (cpi (cpi (cpi st (a1 + 1) (a0 + 1) (min 800 800)) (a1 + 2) (a0 + 2) (min 2800 2800)) (a1 + 3) (a0 + 3) (min 61 61)) a0 4 (some c2)) a1 5)) a1 6)) a0 7 (gi (ui (ui (ur (cpi (cpi (cpi st (a1 + 1) (a0 + 1) (min 800 800)) (a1 + 2) (a0 + 2) (min 2800 2800)) (a1 + 3) (a0 + 3) (min 61 61)) a0 4 (some c2)) a0 5 (gi (ur (cpi (cpi (cpi st (a1 + 1) (a0 + 1) (min 800 800)) (a1 + 2) (a0 + 2) (min 2800 2800)) (a1 + 3) (a0 + 3) (min 61 61)) a0 4 (some c2)) a1 5)) a0 6 (gi (ui (ur (cpi (cpi (cpi st (a1 + 1) (a0 + 1) (min 800 800)) (a1 + 2) (a0 + 2) (min 2800 2800)) (a1 + 3) (a0 + 3) (min 61 61)) a0 4 (some c2)) a0 5 (gi (ur (cpi (cpi (cpi st (a1 + 1) (a0 + 1) (min 800 800)) (a1 + 2) (a0 + 2) (min 2800 2800)) (a1 + 3) (a0 + 3) (min 61 61)) a0 4 (some c2)) a1 5)) a1 6)) a1 7)) a1 8)) a1 9)) a0 10 (gi (ui (ui (ui (ui (ui (ur (cpi (cpi (cpi st (a1 + 1) (a0 + 1) (min 800 800)) (a1 + 2) (a0 + 2) (min 2800 2800)) (a1 + 3) (a0 + 3) (min 61 61)) a0 4 (some c2)) a0 5 (gi (ur (cpi (cpi (cpi st (a1 + 1) (a0 + 1) (min 800 800)) (a1 + 2) (a0 + 2) (min 2800 2800)) (a1 + 3) (a0 + 3) (min 61 61)) a0 4 (some c2)) a1 5)) a0 6 (gi (ui (ur (cpi (cpi (cpi st (a1 + 1) (a0 + 1) (min 800 800)) (a1 + 2) (a0 + 2) (min 2800 2800)) (a1 + 3) (a0 + 3) (min 61 61)) a0 4 (some c2)) a0 5 (gi (ur (cpi (cpi (cpi st (a1 + 1) (a0 + 1) (min 800 800)) (a1 + 2) (a0 + 2) (min 2800 2800)) (a1 + 3) (a0 + 3) (min 61 61)) a0 4 (some c2)) a1 5)) a1 6)) a0 7 (gi (ui (ui (ur (cpi (cpi (cpi st (a1 + 1) (a0 + 1) (min 800 800)) (a1 + 2) (a0 + 2) (min 2800 2800)) (a1 + 3) (a0 + 3) (min 61 61)) a0 4 (some c2)) a0 5 (gi (ur (cpi (cpi (cpi st (a1 + 1) (a0 + 1) (min 800 800)) (a1 + 2) (a0 + 2) (min 2800 2800)) (a1 + 3) (a0 + 3) (min 61 61)) a0 4 (some c2)) a1 5)) a0 6 (gi (ui (ur (cpi (cpi (cpi st (a1 + 1) (a0 + 1) (min 800 800)) (a1 + 2) (a0 + 2) (min 2800 2800)) (a1 + 3) (a0 + 3) (min 61 61)) a0 4 (some c2)) a0 5 (gi (ur (cpi (cpi (cpi st (a1 + 1) (a0 + 1) (min 800 800)) (a1 + 2) (a0 + 2) (min 2800 2800)) (a1 + 3) (a0 + 3) (min 61 61)) a0 4 (some c2)) a1 5)) a1 6)) a1 7)) a0 8 (gi (ui (ui (ui (ur (cpi (cpi (cpi st (a1 + 1) (a0 + 1) (min 800 800)) (a1 + 2) (a0 + 2) (min 2800 2800)) (a1 + 3) (a0 + 3) (min 61 61)) a0 4 (some c2)) a0 5 (gi (ur (cpi (cpi (cpi st (a1 + 1) (a0 + 1) (min 800 800)) (a1 + 2) (a0 + 2) (min 2800 2800)) (a1 + 3) (a0 + 3) (min 61 61)) a0 4 (some c2)) a1 5)) a0 6 (gi (ui (ur (cpi (cpi (cpi st (a1 + 1) (a0 + 1) (min 800 800)) (a1 + 2) (a0 + 2) (min 2800 2800)) (a1 + 3) (a0 + 3) (min 61 61)) a0 4 (some c2)) a0 5 (gi (ur (cpi (cpi (cpi st (a1 + 1) (a0 + 1) (min 800 800)) (a1 + 2) (a0 + 2) (min 2800 2800)) (a1 + 3) (a0 + 3) (min 61 61)) a0 4 (some c2)) a1 5)) a1 6)) a0 7 (gi (ui (ui (ur (cpi (cpi (cpi st (a1 + 1) (a0 + 1) (min 800 800)) (a1 + 2) (a0 + 2) (min 2800 2800)) (a1 + 3) (a0 + 3) (min 61 61)) a0 4 (some c2)) a0 5 (gi (ur (cpi (cpi (cpi st (a1 + 1) (a0 + 1) (min 800 800)) (a1 + 2) (a0 + 2) (min 2800 2800)) (a1 + 3) (a0 + 3) (min 61 61)) a0 4 (some c2)) a1 5)) a0 6 (gi (ui (ur (cpi (cpi (cpi st (a1 + 1) (a0 + 1) (min 800 800)) (a1 + 2) (a0 + 2) (min 2800 2800)) (a1 + 3) (a0 + 3) (min 61 61)) a0 4 (some c2)) a0 5 (gi (ur (cpi (cpi (cpi st (a1 + 1) (a0 + 1) (min 800 800)) (a1 + 2) (a0 + 2) (min 2800 2800)) (a1 + 3) (a0 + 3) (min 61 61)) a0 4 (some c2)) a1 5)) a1 6)) a1 7)) a1 8)) a0 9 (gi (ui (ui (ui (ui (ur (cpi (cpi (cpi st (a1 + 1) (a0 + 1) (min 800 800)) (a1 + 2) (a0 + 2) (min 2800 2800)) (a1 + 3) (a0 + 3) (min 61 61)) a0 4 (some c2)) a0 5 (gi (ur (cpi (cpi (cpi st (a1 + 1) (a0 + 1) (min 800 800)) (a1 + 2) (a0 + 2) (min 2800 2800)) (a1 + 3) (a0 + 3) (min 61 61)) a0 4 (some c2)) a1 5)) a0 6 (gi (ui (ur (cpi (cpi (cpi st (a1 + 1) (a0 + 1) (min 800 800)) (a1 + 2) (a0 + 2) (min 2800 2800)) (a1 + 3) (a0 + 3) (min 61 61)) a0 4 (some c2)) a0 5 (gi (ur (cpi (cpi (cpi st (a1 + 1) (a0 + 1) (min 800 800)) (a1 + 2) (a0 + 2) (min 2800 2800)) (a1 + 3) (a0 + 3) (min 61 61)) a0 4 (some c2)) a1 5)) a1 6)) a0 7 (gi (ui (ui (ur (cpi (cpi (cpi st (a1 + 1) (a0 + 1) (min 800 800)) (a1 + 2) (a0 + 2) (min 2800 2800)) (a1 + 3) (a0 + 3) (min 61 61)) a0 4 (some c2)) a0 5 (gi (ur (cpi (cpi (cpi st (a1 + 1) (a0 + 1) (min 800 800)) (a1 + 2) (a0 + 2) (min 2800 2800)) (a1 + 3) (a0 + 3) (min 61 61)) a0 4 (some c2)) a1 5)) a0 6 (gi (ui (ur (cpi (cpi (cpi st (a1 + 1) (a0 + 1) (min 800 800)) (a1 + 2) (a0 + 2) (min 2800 2800)) (a1 + 3) (a0 + 3) (min 61 61)) a0 4 (some c2)) a0 5 (gi (ur (cpi (cpi (cpi st (a1 + 1) (a0 + 1) (min 800 800)) (a1 + 2) (a0 + 2) (min 2800 2800)) (a1 + 3) (a0 + 3) (min 61 61)) a0 4 (some c2)) a1 5)) a1 6)) a1 7)) a0 8 (gi (ui (ui (ui (ur (cpi (cpi (cpi st (a1 + 1) (a0 + 1) (min 800 800)) (a1 + 2) (a0 + 2) (min 2800 2800)) (a1 + 3) (a0 + 3) (min 61 61)) a0 4 (some c2)) a0 5 (gi (ur (cpi (cpi (cpi st (a1 + 1) (a0 + 1) (min 800 800)) (a1 + 2) (a0 + 2) (min 2800 2800)) (a1 + 3) (a0 + 3) (min 61 61)) a0 4 (some c2)) a1 5)) a0 6 (gi (ui (ur (cpi (cpi (cpi st (a1 + 1) (a0 + 1) (min 800 800)) (a1 + 2) (a0 + 2) (min 2800 2800)) (a1 + 3) (a0 + 3) (min 61 61)) a0 4 (some c2)) a0 5 (gi (ur (cpi (cpi (cpi st (a1 + 1) (a0 + 1) (min 800 800)) (a1 + 2) (a0 + 2) (min 2800 2800)) (a1 + 3) (a0 + 3) (min 61 61)) a0 4 (some c2)) a1 5)) a1 6)) a0 7 (gi (ui (ui (ur (cpi (cpi (cpi st (a1 + 1) (a0 + 1) (min 800 800)) (a1 + 2) (a0 + 2) (min 2800 2800)) (a1 + 3) (a0 + 3) (min 61 61)) a0 4 (some c2)) a0 5 (gi (ur (cpi (cpi (cpi st (a1 + 1) (a0 + 1) (min 800 800)) (a1 + 2) (a0 + 2) (min 2800 2800)) (a1 + 3) (a0 + 3) (min 61 61)) a0 4 (some c2)) a1 5)) a0 6 (gi (ui (ur (cpi (cpi (cpi st (a1 + 1) (a0 + 1) (min 800 800)) (a1 + 2) (a0 + 2) (min 2800 2800)) (a1 + 3) (a0 + 3) (min 61 61)) a0 4 (some c2)) a0 5 (gi (ur (cpi (cpi (cpi st (a1 + 1) (a0 + 1) (min 800 800)) (a1 + 2) (a0 + 2) (min 2800 2800)) (a1 + 3) (a0 + 3) (min 61 61)) a0 4 (some c2)) a1 5)) a1 6)) a1 7)) a1 8)) a1 9)) a1 10)) a0 11 (gi (ui (ui (ui (ui (ui (ui (ur (cpi (cpi (cpi st (a1 + 1) (a0 + 1) (min 800 800)) (a1 + 2) (a0 + 2) (min 2800 2800)) (a1 + 3) (a0 + 3) (min 61 61)) a0 4 (some c2)) a0 5 (gi (ur (cpi (cpi (cpi st (a1 + 1) (a0 + 1) (min 800 800)) (a1 + 2) (a0 + 2) (min 2800 2800)) (a1 + 3) (a0 + 3) (min 61 61)) a0 4 (some c2)) a1 5)) a0 6 (gi (ui (ur (cpi (cpi (cpi st (a1 + 1) (a0 + 1) (min 800 800)) (a1 + 2) (a0 + 2) (min 2800 2800)) (a1 + 3) (a0 + 3) (min 61 61)) a0 4 (some c2)) a0 5 (gi (ur (cpi (cpi (cpi st (a1 + 1) (a0 + 1) (min 800 800)) (a1 + 2) (a0 + 2) (min 2800 2800)) (a1 + 3) (a0 + 3) (min 61 61)) a0 4 (some c2)) a1 5)) a1 6)) a0 7 (gi (ui (ui (ur (cpi (cpi (cpi st (a1 + 1) (a0 + 1) (min 800 800)) (a1 + 2) (a0 + 2) (min 2800 2800)) (a1 + 3) (a0 + 3) (min 61 61)) a0 4 (some c2)) a0 5 (gi (ur (cpi (cpi (cpi st (a1 + 1) (a0 + 1) (min 800 800)) (a1 + 2) (a0 + 2) (min 2800 2800)) (a1 + 3) (a0 + 3) (min 61 61)) a0 4 (some c2)) a1 5)) a0 6 (gi (ui (ur (cpi (cpi (cpi st (a1 + 1) (a0 + 1) (min 800 800)) (a1 + 2) (a0 + 2) (min 2800 2800)) (a1 + 3) (a0 + 3) (min 61 61)) a0 4 (some c2)) a0 5 (gi (ur (cpi (cpi (cpi st (a1 + 1) (a0 + 1) (min 800 800)) (a1 + 2) (a0 + 2) (min 2800 2800)) (a1 + 3) (a0 + 3) (min 61 61)) a0 4 (some c2)) a1 5)) a1 6)) a1 7)) a0 8 (gi (ui (ui (ui (ur (cpi (cpi (cpi st (a1 + 1) (a0 + 1) (min 800 800)) (a1 + 2) (a0 + 2) (min 2800 2800)) (a1 + 3) (a0 + 3) (min 61 61)) a0 4 (some c2)) a0 5 (gi (ur (cpi (cpi (cpi st (a1 + 1) (a0 + 1) (min 800 800)) (a1 + 2) (a0 + 2) (min 2800 2800)) (a1 + 3) (a0 + 3) (min 61 61)) a0 4 (some c2)) a1 5)) a0 6 (gi (ui (ur (cpi (cpi (cpi st (a1 + 1) (a0 + 1) (min 800 800)) (a1 + 2) (a0 + 2) (min 2800 2800)) (a1 + 3) (a0 + 3) (min 61 61)) a0 4 (some c2)) a0 5 (gi (ur (cpi (cpi (cpi st (a1 + 1) (a0 + 1) (min 800 800)) (a1 + 2) (a0 + 2) (min 2800 2800)) (a1 + 3) (a0 + 3) (min 61 61)) a0 4 (some c2)) a1 5)) a1 6)) a0 7 (gi (ui (ui (ur (cpi (cpi (cpi st (a1 + 1) (a0 + 1) (min 800 800)) (a1 + 2) (a0 + 2) (min 2800 2800)) (a1 + 3) (a0 + 3) (min 61 61)) a0 4 (some c2)) a0 5 (gi (ur (cpi (cpi (cpi st (a1 + 1) (a0 + 1) (min 800 800)) (a1 + 2) (a0 + 2) (min 2800 2800)) (a1 + 3) (a0 + 3) (min 61 61)) a0 4 (some c2)) a1 5)) a0 6 (gi (ui (ur (cpi (cpi (cpi st (a1 + 1) (a0 + 1) (min 800 800)) (a1 + 2) (a0 + 2) (min 2800 2800)) (a1 + 3) (a0 + 3) (min 61 61)) a0 4 (some c2)) a0 5 (gi (ur (cpi (cpi (cpi st (a1 + 1) (a0 + 1) (min 800 800)) (a1 + 2) (a0 + 2) (min 2800 2800)) (a1 + 3) (a0 + 3) (min 61 61)) a0 4 (some c2)) a1 5)) a1 6)) a1 7)) a1 8)) a0 9 (gi (ui (ui (ui (ui (ur (cpi (cpi (cpi st (a1 + 1) (a0 + 1) (min 800 800)) (a1 + 2) (a0 + 2) (min 2800 2800)) (a1 + 3) (a0 + 3) (min 61 61)) a0 4 (some c2)) a0 5 (gi (ur (cpi (cpi (cpi st (a1 + 1) (a0 + 1) (min 800 800)) (a1 + 2) (a0 + 2) (min 2800 2800)) (a1 + 3) (a0 + 3) (min 61 61)) a0 4 (some c2)) a1 5)) a0 6 (gi (ui (ur (cpi (cpi (cpi st (a1 + 1) (a0 + 1) (min 800 800)) (a1 + 2) (a0 + 2) (min 2800 2800)) (a1 + 3) (a0 + 3) (min 61 61)) a0 4 (some c2)) a0 5 (gi (ur (cpi (cpi (cpi st (a1 + 1) (a0 + 1) (min 800 800)) (a1 + 2) (a0 + 2) (min 2800 2800)) (a1 + 3) (a0 + 3) (min 61 61)) a0 4 (some c2)) a1 5)) a1 6)) a0 7 (gi (ui (ui (ur (cpi (cpi (cpi st (a1 + 1) (a0 + 1) (min 800 800)) (a1 + 2) (a0 + 2) (min 2800 2800)) (a1 + 3) (a0 + 3) (min 61 61)) a0 4 (some c2)) a0 5 (gi (ur (cpi (cpi (cpi st (a1 + 1) (a0 + 1) (min 800 800)) (a1 + 2) (a0 + 2) (min 2800 2800)) (a1 + 3) (a0 + 3) (min 61 61)) a0 4 (some c2)) a1 5)) a0 6 (gi (ui (ur (cpi (cpi (cpi st (a1 + 1) (a0 + 1) (min 800 800)) (a1 + 2) (a0 + 2) (min 2800 2800)) (a1 + 3) (a0 + 3) (min 61 61)) a0 4 (some c2)) a0 5 (gi (ur (cpi (cpi (cpi st (a1 + 1) (a0 + 1) (min 800 800)) (a1 + 2) (a0 + 2) (min 2800 2800)) (a1 + 3) (a0 + 3) (min 61 61)) a0 4 (some c2)) a1 5)) a1 6)) a1 7)) a0 8 (gi (ui (ui (ui (ur (cpi (cpi (cpi st (a1 + 1) (a0 + 1) (min 800 800)) (a1 + 2) (a0 + 2) (min 2800 2800)) (a1 + 3) (a0 + 3) (min 61 61)) a0 4 (some c2)) a0 5 (gi (ur (cpi (cpi (cpi st (a1 + 1) (a0 + 1) (min 800 800)) (a1 + 2) (a0 + 2) (min 2800 2800)) (a1 + 3) (a0 + 3) (min 61 61)) a0 4 (some c2)) a1 5)) a0 6 (gi (ui (ur (cpi (cpi (cpi st (a1 + 1) (a0 + 1) (min 800 800)) (a1 + 2) (a0 + 2) (min 2800 2800)) (a1 + 3) (a0 + 3) (min 61 61)) a0 4 (some c2)) a0 5 (gi (ur (cpi (cpi (cpi st (a1 + 1) (a0 + 1) (min 800 800)) (a1 + 2) (a0 + 2) (min 2800 2800)) (a1 + 3) (a0 + 3) (min 61 61)) a0 4 (some c2)) a1 5)) a1 6)) a0 7 (gi (ui (ui (ur (cpi (cpi (cpi st (a1 + 1) (a0 + 1) (min 800 800)) (a1 + 2) (a0 + 2) (min 2800 2800)) (a1 + 3) (a0 + 3) (min 61 61)) a0 4 (some c2)) a0 5 (gi (ur (cpi (cpi (cpi st (a1 + 1) (a0 + 1) (min 800 800)) (a1 + 2) (a0 + 2) (min 2800 2800)) (a1 + 3) (a0 + 3) (min 61 61)) a0 4 (some c2)) a1 5)) a0 6 (gi (ui (ur (cpi (cpi (cpi st (a1 + 1) (a0 + 1) (min 800 800)) (a1 + 2) (a0 + 2) (min 2800 2800)) (a1 + 3) (a0 + 3) (min 61 61)) a0 4 (some c2)) a0 5 (gi (ur (cpi (cpi (cpi st (a1 + 1) (a0 + 1) (min 800 800)) (a1 + 2) (a0 + 2) (min 2800 2800)) (a1 + 3) (a0 + 3) (min 61 61)) a0 4 (some c2)) a1 5)) a1 6)) a1 7)) a1 8)) a1 9)) a0 10 (gi (ui (ui (ui (ui (ui (ur (cpi (cpi (cpi st (a1 + 1) (a0 + 1) (min 800 800)) (a1 + 2) (a0 + 2) (min 2800 2800)) (a1 + 3) (a0 + 3) (min 61 61)) a0 4 (some c2)) a0 5 (gi (ur (cpi (cpi (cpi st (a1 + 1) (a0 + 1) (min 800 800)) (a1 + 2) (a0 + 2) (min 2800 2800)) (a1 + 3) (a0 + 3) (min 61 61)) a0 4 (some c2)) a1 5)) a0 6 (gi (ui (ur (cpi (cpi (cpi st (a1 + 1) (a0 + 1) (min 800 800)) (a1 + 2) (a0 + 2) (min 2800 2800)) (a1 + 3) (a0 + 3) (min 61 61)) a0 4 (some c2)) a0 5 (gi (ur (cpi (cpi (cpi st (a1 + 1) (a0 + 1) (min 800 800)) (a1 + 2) (a0 + 2) (min 2800 2800)) (a1 + 3) (a0 + 3) (min 61 61)) a0 4 (some c2)) a1 5)) a1 6)) a0 7 (gi (ui (ui (ur (cpi (cpi (cpi st (a1 + 1) (a0 + 1) (min 800 800)) (a1 + 2) (a0 + 2) (min 2800 2800)) (a1 + 3) (a0 + 3) (min 61 61)) a0 4 (some c2)) a0 5 (gi (ur (cpi (cpi (cpi st (a1 + 1) (a0 + 1) (min 800 800)) (a1 + 2) (a0 + 2) (min 2800 2800)) (a1 + 3) (a0 + 3) (min 61 61)) a0 4 (some c2)) a1 5)) a0 6 (gi (ui (ur (cpi (cpi (cpi st (a1 + 1) (a0 + 1) (min 800 800)) (a1 + 2) (a0 + 2) (min 2800 2800)) (a1 + 3) (a0 + 3) (min 61 61)) a0 4 (some c2)) a0 5 (gi (ur (cpi (cpi (cpi st (a1 + 1) (a0 + 1) (min 800 800)) (a1 + 2) (a0 + 2) (min 2800 2800)) (a1 + 3) (a0 + 3) (min 61 61)) a0 4 (some c2)) a1 5)) a1 6)) a1 7)) a0 8 (gi (ui (ui (ui (ur (cpi (cpi (cpi st (a1 + 1) (a0 + 1) (min 800 800)) (a1 + 2) (a0 + 2) (min 2800 2800)) (a1 + 3) (a0 + 3) (min 61 61)) a0 4 (some c2)) a0 5 (gi (ur (cpi (cpi (cpi st (a1 + 1) (a0 + 1) (min 800 800)) (a1 + 2) (a0 + 2) (min 2800 2800)) (a1 + 3) (a0 + 3) (min 61 61)) a0 4 (some c2)) a1 5)) a0 6 (gi (ui (ur (cpi (cpi (cpi st (a1 + 1) (a0 + 1) (min 800 800)) (a1 + 2) (a0 + 2) (min 2800 2800)) (a1 + 3) (a0 + 3) (min 61 61)) a0 4 (some c2)) a0 5 (gi (ur (cpi (cpi (cpi st (a1 + 1) (a0 + 1) (min 800 800)) (a1 + 2) (a0 + 2) (min 2800 2800)) (a1 + 3) (a0 + 3) (min 61 61)) a0 4 (some c2)) a1 5)) a1 6)) a0 7 (gi (ui (ui (ur (cpi (cpi (cpi st (a1 + 1) (a0 + 1) (min 800 800)) (a1 + 2) (a0 + 2) (min 2800 2800)) (a1 + 3) (a0 + 3) (min 61 61)) a0 4 (some c2)) a0 5 (gi (ur (cpi (cpi (cpi st (a1 + 1) (a0 + 1) (min 800 800)) (a1 + 2) (a0 + 2) (min 2800 2800)) (a1 + 3) (a0 + 3) (min 61 61)) a0 4 (some c2)) a1 5)) a0 6 (gi (ui (ur (cpi (cpi (cpi st (a1 + 1) (a0 + 1) (min 800 800)) (a1 + 2) (a0 + 2) (min 2800 2800)) (a1 + 3) (a0 + 3) (min 61 61)) a0 4 (some c2)) a0 5 (gi (ur (cpi (cpi (cpi st (a1 + 1) (a0 + 1) (min 800 800)) (a1 + 2) (a0 + 2) (min 2800 2800)) (a1 + 3) (a0 + 3) (min 61 61)) a0 4 (some c2)) a1 5)) a1 6)) a1 7)) a1 8)) a0 9 (gi (ui (ui (ui (ui (ur (cpi (cpi (cpi st (a1 + 1) (a0 + 1) (min 800 800)) (a1 + 2) (a0 + 2) (min 2800 2800)) (a1 + 3) (a0 + 3) (min 61 61)) a0 4 (some c2)) a0 5 (gi (ur (cpi (cpi (cpi st (a1 + 1) (a0 + 1) (min 800 800)) (a1 + 2) (a0 + 2) (min 2800 2800)) (a1 + 3) (a0 + 3) (min 61 61)) a0 4 (some c2)) a1 5)) a0 6 (gi (ui (ur (cpi (cpi (cpi st (a1 + 1) (a0 + 1) (min 800 800)) (a1 + 2) (a0 + 2) (min 2800 2800)) (a1 + 3) (a0 + 3) (min 61 61)) a0 4 (some c2)) a0 5 (gi (ur (cpi (cpi (cpi st (a1 + 1) (a0 + 1) (min 800 800)) (a1 + 2) (a0 + 2) (min 2800 2800)) (a1 + 3) (a0 + 3) (min 61 61)) a0 4 (some c2)) a1 5)) a1 6)) a0 7 (gi (ui (ui (ur (cpi (cpi (cpi st (a1 + 1) (a0 + 1) (min 800 800)) (a1 + 2) (a0 + 2) (min 2800 2800)) (a1 + 3) (a0 + 3) (min 61 61)) a0 4 (some c2)) a0 5 (gi (ur (cpi (cpi (cpi st (a1 + 1) (a0 + 1) (min 800 800)) (a1 + 2) (a0 + 2) (min 2800 2800)) (a1 + 3) (a0 + 3) (min 61 61)) a0 4 (some c2)) a1 5)) a0 6 (gi (ui (ur (cpi (cpi (cpi st (a1 + 1) (a0 + 1) (min 800 800)) (a1 + 2) (a0 + 2) (min 2800 2800)) (a1 + 3) (a0 + 3) (min 61 61)) a0 4 (some c2)) a0 5 (gi (ur (cpi (cpi (cpi st (a1 + 1) (a0 + 1) (min 800 800)) (a1 + 2) (a0 + 2) (min 2800 2800)) (a1 + 3) (a0 + 3) (min 61 61)) a0 4 (some c2)) a1 5)) a1 6)) a1 7)) a0 8 (gi (ui (ui (ui (ur (cpi (cpi (cpi st (a1 + 1) (a0 + 1) (min 800 800)) (a1 + 2) (a0 + 2) (min 2800 2800)) (a1 + 3) (a0 + 3) (min 61 61)) a0 4 (some c2)) a0 5 (gi (ur (cpi (cpi (cpi st (a1 + 1) (a0 + 1) (min 800 800)) (a1 + 2) (a0 + 2) (min 2800 2800)) (a1 + 3) (a0 + 3) (min 61 61)) a0 4 (some c2)) a1 5)) a0 6 (gi (ui (ur (cpi (cpi (cpi st (a1 + 1) (a0 + 1) (min 800 800)) (a1 + 2) (a0 + 2) (min 2800 2800)) (a1 + 3) (a0 + 3) (min 61 61)) a0 4 (some c2)) a0 5 (gi (ur (cpi (cpi (cpi st (a1 + 1) (a0 + 1) (min 800 800)) (a1 + 2) (a0 + 2) (min 2800 2800)) (a1 + 3) (a0 + 3) (min 61 61)) a0 4 (some c2)) a1 5)) a1 6)) a0 7 (gi (ui (ui (ur (cpi (cpi (cpi st (a1 + 1) (a0 + 1) (min 800 800)) (a1 + 2) (a0 + 2) (min 2800 2800)) (a1 + 3) (a0 + 3) (min 61 61)) a0 4 (some c2)) a0 5 (gi (ur (cpi (cpi (cpi st (a1 + 1) (a0 + 1) (min 800 800)) (a1 + 2) (a0 + 2) (min 2800 2800)) (a1 + 3) (a0 + 3) (min 61 61)) a0 4 (some c2)) a1 5)) a0 6 (gi (ui (ur (cpi (cpi (cpi st (a1 + 1) (a0 + 1) (min 800 800)) (a1 + 2) (a0 + 2) (min 2800 2800)) (a1 + 3) (a0 + 3) (min 61 61)) a0 4 (some c2)) a0 5 (gi (ur (cpi (cpi (cpi st (a1 + 1) (a0 + 1) (min 800 800)) (a1 + 2) (a0 + 2) (min 2800 2800)) (a1 + 3) (a0 + 3) (min 61 61)) a0 4 (some c2)) a1 5)) a1 6)) a1 7)) a1 8)) a1 9)) a1 10)) a1 11)) a1 12)) a1 13))))
theorem t_Sh_becomeLike {κ : Ko} {F : AS → Prop} {a0 : Nat} {a1 : Nat} {st : AS} {s' : AS} (l_a0 : ly κ a0 = (8, 14)) (l_a1 : ly κ a1 = (8, 14)) (h : f_Sh_becomeLike κ a0 a1 st = some s') (k : F s') : C κ M_Sh_becomeLike [.ref a0, .ref a1] st (RV F) := by
  unfold f_Sh_becomeLike at h
  refine e_Sh_becomeLike ?_
  refine b_Sh_becomeLike_0 (l_a1 := l_a1) (l_a0 := l_a0) (k1 := t_X_copy (co8 1 50 800 rfl l_a1) (co8 1 50 800 rfl l_a0) rfl ?_)
  refine b_Sh_becomeLike_11 (l_a1 := l_a1) (l_a0 := l_a0) (k1 := t_X_copy (co8 2 50 2800 rfl l_a1) (co8 2 50 2800 rfl l_a0) rfl ?_)
  refine b_Sh_becomeLike_22 (l_a1 := l_a1) (l_a0 := l_a0) (k1 := t_X_copy (co8 3 50 61 rfl l_a1) (co8 3 50 61 rfl l_a0) rfl ?_)
  obtain ⟨c2, h1, h⟩ := bnd_some h
  obtain ⟨l3, h⟩ := grd_some h
  exact b_Sh_becomeLike_33 (l_a1 := l_a1) (g1 := h1) (l_a0 := l_a0) (k2 := lfV h k)
noncomputable def f_X_after (κ : Ko) (a0 : Nat) (x1 : Int32) (x2 : Int32) (x3 : Int32) (st : AS) : Option (Int32 × AS) := bnd (f_X_doingAt κ a0 x1 st) (fun v1 => nul v1 (bnd (f_Pl_get κ (a0 + 21) x2 st) (fun v11 => nul v11 (some (((-1) : Int32), st)) (fun c12 => grd (ly κ c12 = (8, 14)) (some (((-1) : Int32), st))))) (fun c2 => grd (ly κ c2 = (2, 5)) (bnd (f_Pl_get κ (a0 + 21) x2 st) (fun v4 => nul v4 (some (((-1) : Int32), st)) (fun c5 => grd (ly κ c5 = (8, 14)) (if (wi ((x3 : Int32).toInt64) (0 : Int64) (2 : Int64)) = 0 then some (((-1) : Int32), st) else bnd (f_Sh_becomeLike κ (a0 + 54) c5 st) (fun s7 => bnd2 (f_Dg_doTo κ c2 (a0 + 54) s7) (fun v8 s9 => if x3 = 0 then some (v8, s9) else if x3 = 1 then some ((f_Sh_facetCount κ (a0 + 54) s9), s9) else bnd (f_Sh_lengthOfAll κ (a0 + 54) s9) (fun v10 => some (v10, s9))))))))))
theorem t_X_after {κ : Ko} {F : Int32 → AS → Prop} {a0 : Nat} {x1 : Int32} {x2 : Int32} {x3 : Int32} {st : AS} {v : Int32} {s' : AS} (l_a0 : ly κ a0 = (11, 15)) (h : f_X_after κ a0 x1 x2 x3 st = some (v, s')) (k : F v s') : C κ M_X_after [.ref a0, .int x1, .int x2, .int x3] st (RI F) := by
  unfold f_X_after at h
  refine e_X_after ?_
  obtain ⟨v1, h14, h⟩ := bnd_some h
  refine b_X_after_0 (l_a0 := l_a0) (k1 := t_X_doingAt l_a0 h14 ?_)
  rcases v1 with _ | c2
  · replace h := nul_n h
    obtain ⟨v11, h15, h⟩ := bnd_some h
    refine b_X_after_5_RN (l_a0 := l_a0) (k1 := t_Pl_get (co11 21 5 3 rfl l_a0) h15 ?_)
    rcases v11 with _ | c12
    · replace h := nul_n h
      exact b_X_after_15_RNN  (k1 := lfI h k)
    · obtain ⟨l13, h⟩ := grd_some (nul_s h)
      exact b_X_after_15_RNR  (k1 := lfI h k)
  · obtain ⟨l3, h⟩ := grd_some (nul_s h)
    obtain ⟨v4, h16, h⟩ := bnd_some h
    refine b_X_after_5_RR (l_a0 := l_a0) (k1 := t_Pl_get (co11 21 5 3 rfl l_a0) h16 ?_)
    rcases v4 with _ | c5
    · replace h := nul_n h
      exact b_X_after_15_RRN  (k1 := lfI h k)
    · obtain ⟨l6, h⟩ := grd_some (nul_s h)
      refine b_X_after_15_RRR  (k1 := t_X_within  rfl ?_)
      refine b_X_after_36  (k1 := fun e17 => ?_) (k2 := fun e17 => ?_)
      · replace h := if_f e17 h
        obtain ⟨s7, h18, h⟩ := bnd_some h
        refine b_X_after_41 (l_a0 := l_a0) (k1 := t_Sh_becomeLike (co11 54 8 14 rfl l_a0) l6 h18 ?_)
        obtain ⟨v8, s9, h19, h⟩ := bnd2_some h
        refine b_X_after_50 (l_a0 := l_a0) (l_a4 := l3) (k1 := t_Dg_doTo l3 (co11 54 8 14 rfl l_a0) h19 ?_)
        refine b_X_after_59  (k1 := fun e20 => ?_) (k2 := fun e20 => ?_)
        · replace h := if_f e20 h
          refine b_X_after_68  (k1 := fun e21 => ?_) (k2 := fun e21 => ?_)
          · replace h := if_f e21 h
            obtain ⟨v10, h22, h⟩ := bnd_some h
            refine b_X_after_83 (l_a0 := l_a0) (k1 := t_Sh_lengthOfAll (co11 54 8 14 rfl l_a0) h22 ?_)
            exact b_X_after_90  (k1 := lfI h k)
          · replace h := if_t e21 h
            refine b_X_after_73 (l_a0 := l_a0) (k1 := t_Sh_facetCount (co11 54 8 14 rfl l_a0) rfl ?_)
            exact b_X_after_80  (k1 := lfI h k)
        · replace h := if_t e20 h
          exact b_X_after_65  (k1 := lfI h k)
      · replace h := if_t e17 h
        exact b_X_after_39  (k1 := lfI h k)
noncomputable def f_Sh_seedTold (κ : Ko) (a0 : Nat) (st : AS) : Int32 := (gi st a0 7)
theorem t_Sh_seedTold {κ : Ko} {F : Int32 → AS → Prop} {a0 : Nat} {st : AS} {v : Int32} (l_a0 : ly κ a0 = (8, 14)) (h : f_Sh_seedTold κ a0 st = v) (k : F v st) : C κ M_Sh_seedTold [.ref a0] st (RI F) := by
  unfold f_Sh_seedTold at h
  refine e_Sh_seedTold ?_
  exact b_Sh_seedTold_0 (l_a0 := l_a0) (k1 := lfIPT h k)
noncomputable def f_Sh_beginAfresh (κ : Ko) (a0 : Nat) (a1 : Nat) (x2 : Int32) (st : AS) : Option AS := bnd (gr st a1 4) (fun c2 => grd (ly κ c2 = (3, 7)) (bnd (f_Sh_begin κ a0 (gi st a1 5) (gi st a1 6) c2 x2 st) (fun s4 => some s4)))
theorem t_Sh_beginAfresh {κ : Ko} {F : AS → Prop} {a0 : Nat} {a1 : Nat} {x2 : Int32} {st : AS} {s' : AS} (l_a0 : ly κ a0 = (8, 14)) (l_a1 : ly κ a1 = (8, 14)) (h : f_Sh_beginAfresh κ a0 a1 x2 st = some s') (k : F s') : C κ M_Sh_beginAfresh [.ref a0, .ref a1, .int x2] st (RV F) := by
  unfold f_Sh_beginAfresh at h
  refine e_Sh_beginAfresh ?_
  obtain ⟨c2, h1, h⟩ := bnd_some h
  obtain ⟨l3, h⟩ := grd_some h
  obtain ⟨s4, h5, h⟩ := bnd_some h
  refine b_Sh_beginAfresh_0 (l_a1 := l_a1) (g1 := h1) (l_a0 := l_a0) (k2 := t_Sh_begin l_a0 l3 h5 ?_)
  exact b_Sh_beginAfresh_17  (k1 := lfV h k)
noncomputable def L_Sh_hasRidgeLike_2 (κ : Ko) (st : AS) : Nat → Nat → Nat → Int32 → Int32 → Option Int32
  | 0, _, _, _, _ => none
  | d + 1, a0, a1, x2, x3 => if (gi st a0 12) ≤ x3 then some (0 : Int32) else bnd (f_Sh_ridgePart κ a0 x3 (0 : Int32) st) (fun v1 => bnd (f_Sh_ridgePart κ a1 x2 (0 : Int32) st) (fun v2 => jn (L_Sh_hasRidgeLike_2 κ st  d a0 a1 x2 (x3 + 1)) fun j9 => if v1 = v2 then bnd (f_Sh_ridgePart κ a0 x3 (1 : Int32) st) (fun v3 => bnd (f_Sh_ridgePart κ a1 x2 (1 : Int32) st) (fun v4 => if v3 = v4 then bnd (f_Sh_ridgePart κ a0 x3 (2 : Int32) st) (fun v5 => bnd (f_Sh_ridgePart κ a1 x2 (2 : Int32) st) (fun v6 => if v5 = v6 then bnd (f_Sh_ridgePart κ a0 x3 (3 : Int32) st) (fun v7 => bnd (f_Sh_ridgePart κ a1 x2 (3 : Int32) st) (fun v8 => if v7 = v8 then some (1 : Int32) else j9)) else j9)) else j9)) else j9))
noncomputable def f_Sh_hasRidgeLike (κ : Ko) (a0 : Nat) (a1 : Nat) (x2 : Int32) (st : AS) : Option Int32 := L_Sh_hasRidgeLike_2 κ st  FU a0 a1 x2 (0 : Int32)
theorem l_Sh_hasRidgeLike_2 {κ : Ko} {F : Int32 → AS → Prop} {v : Int32} {st : AS} (k : F v st) : ∀ (d : Nat) (a0 : Nat) (a1 : Nat) (x2 : Int32) (x3 : Int32), ly κ a0 = (8, 14) → ly κ a1 = (8, 14) → L_Sh_hasRidgeLike_2 κ st  d a0 a1 x2 x3 = some v → V κ M_Sh_hasRidgeLike (RI F) 2 [some (.ref a0), some (.ref a1), some (.int x2), some (.int x3)] [] st := by
  intro d
  induction d with
  | zero =>
    intro a0 a1 x2 x3 l_a0 l_a1 h
    exact nn_some h
  | succ d ih =>
    intro a0 a1 x2 x3 l_a0 l_a1 h
    rw [L_Sh_hasRidgeLike_2] at h
    refine b_Sh_hasRidgeLike_2 (l_a0 := l_a0) (k1 := fun e10 => ?_) (k2 := fun e10 => ?_)
    · replace h := if_t e10 h
      exact b_Sh_hasRidgeLike_78  (k1 := lfIP h k)
    · replace h := if_f e10 h
      obtain ⟨v1, h11, h⟩ := bnd_some h
      refine b_Sh_hasRidgeLike_10 (l_a0 := l_a0) (k1 := t_Sh_ridgePart l_a0 h11 ?_)
      obtain ⟨v2, h12, h⟩ := bnd_some h
      refine b_Sh_hasRidgeLike_16 (l_a1 := l_a1) (k1 := t_Sh_ridgePart l_a1 h12 ?_)
      obtain ⟨j9, hdj9, h⟩ := jn_some h
      have hj9 : j9 = some v → V κ M_Sh_hasRidgeLike (RI F) 72 [some (.ref a0), some (.ref a1), some (.int x2), some (.int x3)] [] st := by
        intro h
        rw [hdj9] at h
        refine b_Sh_hasRidgeLike_72  (k1 := ?_)
        exact ih _ _ _ _ l_a0 l_a1 h
      clear hdj9
      refine b_Sh_hasRidgeLike_22  (k1 := fun e13 => ?_) (k2 := fun e13 => ?_)
      · replace h := if_f e13 h
        exact hj9  h
      · replace h := if_t e13 h
        obtain ⟨v3, h14, h⟩ := bnd_some h
        refine b_Sh_hasRidgeLike_25 (l_a0 := l_a0) (k1 := t_Sh_ridgePart l_a0 h14 ?_)
        obtain ⟨v4, h15, h⟩ := bnd_some h
        refine b_Sh_hasRidgeLike_31 (l_a1 := l_a1) (k1 := t_Sh_ridgePart l_a1 h15 ?_)
        refine b_Sh_hasRidgeLike_37  (k1 := fun e16 => ?_) (k2 := fun e16 => ?_)
        · replace h := if_f e16 h
          exact hj9  h
        · replace h := if_t e16 h
          obtain ⟨v5, h17, h⟩ := bnd_some h
          refine b_Sh_hasRidgeLike_40 (l_a0 := l_a0) (k1 := t_Sh_ridgePart l_a0 h17 ?_)
          obtain ⟨v6, h18, h⟩ := bnd_some h
          refine b_Sh_hasRidgeLike_46 (l_a1 := l_a1) (k1 := t_Sh_ridgePart l_a1 h18 ?_)
          refine b_Sh_hasRidgeLike_52  (k1 := fun e19 => ?_) (k2 := fun e19 => ?_)
          · replace h := if_f e19 h
            exact hj9  h
          · replace h := if_t e19 h
            obtain ⟨v7, h20, h⟩ := bnd_some h
            refine b_Sh_hasRidgeLike_55 (l_a0 := l_a0) (k1 := t_Sh_ridgePart l_a0 h20 ?_)
            obtain ⟨v8, h21, h⟩ := bnd_some h
            refine b_Sh_hasRidgeLike_61 (l_a1 := l_a1) (k1 := t_Sh_ridgePart l_a1 h21 ?_)
            refine b_Sh_hasRidgeLike_67  (k1 := fun e22 => ?_) (k2 := fun e22 => ?_)
            · replace h := if_f e22 h
              exact hj9  h
            · replace h := if_t e22 h
              exact b_Sh_hasRidgeLike_70  (k1 := lfIP h k)
theorem t_Sh_hasRidgeLike {κ : Ko} {F : Int32 → AS → Prop} {a0 : Nat} {a1 : Nat} {x2 : Int32} {st : AS} {v : Int32} (l_a0 : ly κ a0 = (8, 14)) (l_a1 : ly κ a1 = (8, 14)) (h : f_Sh_hasRidgeLike κ a0 a1 x2 st = some v) (k : F v st) : C κ M_Sh_hasRidgeLike [.ref a0, .ref a1, .int x2] st (RI F) := by
  unfold f_Sh_hasRidgeLike at h
  refine e_Sh_hasRidgeLike ?_
  refine b_Sh_hasRidgeLike_0  (k1 := ?_)
  refine l_Sh_hasRidgeLike_2 k FU _ _ _ _ l_a0 l_a1 h
noncomputable def L_Sh_ridgesAlsoOf_4 (κ : Ko) (st : AS) : Nat → Nat → Nat → Int32 → Int32 → Option Int32
  | 0, _, _, _, _ => none
  | d + 1, a0, a1, x2, x3 => if (gi st a0 12) ≤ x3 then some x2 else bnd (f_Sh_hasRidgeLike κ a1 a0 x3 st) (fun v1 => L_Sh_ridgesAlsoOf_4 κ st  d a0 a1 (if v1 = 0 then x2 + 0 else x2 + 1 : Int32) (x3 + 1))
noncomputable def f_Sh_ridgesAlsoOf (κ : Ko) (a0 : Nat) (a1 : Nat) (st : AS) : Option Int32 := L_Sh_ridgesAlsoOf_4 κ st  FU a0 a1 (0 : Int32) (0 : Int32)
theorem l_Sh_ridgesAlsoOf_4 {κ : Ko} {F : Int32 → AS → Prop} {v : Int32} {st : AS} (k : F v st) : ∀ (d : Nat) (a0 : Nat) (a1 : Nat) (x2 : Int32) (x3 : Int32), ly κ a0 = (8, 14) → ly κ a1 = (8, 14) → L_Sh_ridgesAlsoOf_4 κ st  d a0 a1 x2 x3 = some v → V κ M_Sh_ridgesAlsoOf (RI F) 4 [some (.ref a0), some (.ref a1), some (.int x2), some (.int x3)] [] st := by
  intro d
  induction d with
  | zero =>
    intro a0 a1 x2 x3 l_a0 l_a1 h
    exact nn_some h
  | succ d ih =>
    intro a0 a1 x2 x3 l_a0 l_a1 h
    rw [L_Sh_ridgesAlsoOf_4] at h
    refine b_Sh_ridgesAlsoOf_4 (l_a0 := l_a0) (k1 := fun e2 => ?_) (k2 := fun e2 => ?_)
    · replace h := if_t e2 h
      exact b_Sh_ridgesAlsoOf_35  (k1 := lfIP h k)
    · replace h := if_f e2 h
      obtain ⟨v1, h3, h⟩ := bnd_some h
      refine b_Sh_ridgesAlsoOf_12 (l_a1 := l_a1) (k1 := t_Sh_hasRidgeLike l_a1 l_a0 h3 ?_)
      have K5 : V κ M_Sh_ridgesAlsoOf (RI F) 4 [some (.ref a0), some (.ref a1), some (.int (if v1 = 0 then x2 + 0 else x2 + 1 : Int32)), some (.int (x3 + 1))] [] st := by
        exact ih _ _ _ _ l_a0 l_a1 h
      refine b_Sh_ridgesAlsoOf_19  (k1 := fun e6 => ?_) (k2 := fun e6 => ?_)
      · refine b_Sh_ridgesAlsoOf_26  (k1 := ?_)
        exact (ite_t (P := fun z => V κ M_Sh_ridgesAlsoOf (RI F) 4 [some (.ref a0), some (.ref a1), some (.int z), some (.int (x3 + 1))] [] st) e6 K5)
      · refine b_Sh_ridgesAlsoOf_22  (k1 := ?_)
        exact (ite_f (P := fun z => V κ M_Sh_ridgesAlsoOf (RI F) 4 [some (.ref a0), some (.ref a1), some (.int z), some (.int (x3 + 1))] [] st) e6 K5)
theorem t_Sh_ridgesAlsoOf {κ : Ko} {F : Int32 → AS → Prop} {a0 : Nat} {a1 : Nat} {st : AS} {v : Int32} (l_a0 : ly κ a0 = (8, 14)) (l_a1 : ly κ a1 = (8, 14)) (h : f_Sh_ridgesAlsoOf κ a0 a1 st = some v) (k : F v st) : C κ M_Sh_ridgesAlsoOf [.ref a0, .ref a1] st (RI F) := by
  unfold f_Sh_ridgesAlsoOf at h
  refine e_Sh_ridgesAlsoOf ?_
  refine b_Sh_ridgesAlsoOf_0  (k1 := ?_)
  refine l_Sh_ridgesAlsoOf_4 k FU _ _ _ _ l_a0 l_a1 h
noncomputable def f_X_alikeAfresh (κ : Ko) (a0 : Nat) (a1 : Nat) (a2 : Nat) (st : AS) : Option (Int32 × AS) := bnd (f_Sh_beginAfresh κ (a0 + 54) a1 (f_Sh_seedTold κ a1 st) st) (fun s1 => bnd2 (f_Dg_doTo κ a2 (a0 + 54) s1) (fun v2 s3 => bnd (f_Sh_ridgesAlsoOf κ a1 (a0 + 54) s3) (fun v4 => some (v4, s3))))
theorem t_X_alikeAfresh {κ : Ko} {F : Int32 → AS → Prop} {a0 : Nat} {a1 : Nat} {a2 : Nat} {st : AS} {v : Int32} {s' : AS} (l_a0 : ly κ a0 = (11, 15)) (l_a1 : ly κ a1 = (8, 14)) (l_a2 : ly κ a2 = (2, 5)) (h : f_X_alikeAfresh κ a0 a1 a2 st = some (v, s')) (k : F v s') : C κ M_X_alikeAfresh [.ref a0, .ref a1, .ref a2] st (RI F) := by
  unfold f_X_alikeAfresh at h
  refine e_X_alikeAfresh ?_
  refine b_X_alikeAfresh_0 (l_a0 := l_a0) (l_a1 := l_a1) (k1 := t_Sh_seedTold l_a1 rfl ?_)
  obtain ⟨s1, h5, h⟩ := bnd_some h
  refine b_X_alikeAfresh_9 (l_c0 := (co11 54 8 14 rfl l_a0)) (k1 := t_Sh_beginAfresh (co11 54 8 14 rfl l_a0) l_a1 h5 ?_)
  obtain ⟨v2, s3, h6, h⟩ := bnd2_some h
  refine b_X_alikeAfresh_12 (l_a0 := l_a0) (l_a2 := l_a2) (k1 := t_Dg_doTo l_a2 (co11 54 8 14 rfl l_a0) h6 ?_)
  obtain ⟨v4, h7, h⟩ := bnd_some h
  refine b_X_alikeAfresh_20 (l_a0 := l_a0) (l_a1 := l_a1) (k1 := t_Sh_ridgesAlsoOf l_a1 (co11 54 8 14 rfl l_a0) h7 ?_)
  exact b_X_alikeAfresh_29  (k1 := lfI h k)
noncomputable def f_X_alike (κ : Ko) (a0 : Nat) (x1 : Int32) (x2 : Int32) (st : AS) : Option (Int32 × AS) := bnd (f_X_doingAt κ a0 x2 st) (fun v1 => nul v1 (bnd (f_Pl_get κ (a0 + 21) x1 st) (fun v9 => nul v9 (some (((-1) : Int32), st)) (fun c10 => grd (ly κ c10 = (8, 14)) (some (((-1) : Int32), st))))) (fun c2 => grd (ly κ c2 = (2, 5)) (bnd (f_Pl_get κ (a0 + 21) x1 st) (fun v4 => nul v4 (some (((-1) : Int32), st)) (fun c5 => grd (ly κ c5 = (8, 14)) (bnd2 (f_X_alikeAfresh κ a0 c5 c2 st) (fun v7 s8 => some (v7, s8))))))))
theorem t_X_alike {κ : Ko} {F : Int32 → AS → Prop} {a0 : Nat} {x1 : Int32} {x2 : Int32} {st : AS} {v : Int32} {s' : AS} (l_a0 : ly κ a0 = (11, 15)) (h : f_X_alike κ a0 x1 x2 st = some (v, s')) (k : F v s') : C κ M_X_alike [.ref a0, .int x1, .int x2] st (RI F) := by
  unfold f_X_alike at h
  refine e_X_alike ?_
  obtain ⟨v1, h12, h⟩ := bnd_some h
  refine b_X_alike_0 (l_a0 := l_a0) (k1 := t_X_doingAt l_a0 h12 ?_)
  rcases v1 with _ | c2
  · replace h := nul_n h
    obtain ⟨v9, h13, h⟩ := bnd_some h
    refine b_X_alike_5_RN (l_a0 := l_a0) (k1 := t_Pl_get (co11 21 5 3 rfl l_a0) h13 ?_)
    rcases v9 with _ | c10
    · replace h := nul_n h
      exact b_X_alike_14_RNN  (k1 := lfI h k)
    · obtain ⟨l11, h⟩ := grd_some (nul_s h)
      exact b_X_alike_14_RNR  (k1 := lfI h k)
  · obtain ⟨l3, h⟩ := grd_some (nul_s h)
    obtain ⟨v4, h14, h⟩ := bnd_some h
    refine b_X_alike_5_RR (l_a0 := l_a0) (k1 := t_Pl_get (co11 21 5 3 rfl l_a0) h14 ?_)
    rcases v4 with _ | c5
    · replace h := nul_n h
      exact b_X_alike_14_RRN  (k1 := lfI h k)
    · obtain ⟨l6, h⟩ := grd_some (nul_s h)
      obtain ⟨v7, s8, h15, h⟩ := bnd2_some h
      refine b_X_alike_14_RRR (l_a0 := l_a0) (k1 := t_X_alikeAfresh l_a0 l6 l3 h15 ?_)
      exact b_X_alike_34  (k1 := lfI h k)
noncomputable def L_X_which_24 (κ : Ko) : Nat → Nat → Nat → Int32 → Int32 → Int32 → AS → Option (Int32 × AS)
  | 0, _, _, _, _, _, _ => none
  | d + 1, a0, a2, x3, x4, x5, st => if 6 ≤ x5 then some (x3, st) else jn (fun (v10 : Int32) (s11 : AS) => L_X_which_24 κ  d a0 a2 (if v10 ≤ x4 then x3 else x5 : Int32) (if v10 ≤ x4 then x4 else v10 : Int32) (x5 + 1) s11) fun j9 => bnd (f_X_doingAt κ a0 x5 st) (fun v4 => nul v4 (j9 ((-1) : Int32) st) (fun c5 => grd (ly κ c5 = (2, 5)) (bnd2 (f_X_alikeAfresh κ a0 a2 c5 st) (fun v7 s8 => j9 v7 s8))))
noncomputable def f_X_which (κ : Ko) (a0 : Nat) (x1 : Int32) (st : AS) : Option (Int32 × AS) := bnd (f_Pl_get κ (a0 + 21) x1 st) (fun v1 => nul v1 (some (((-1) : Int32), st)) (fun c2 => grd (ly κ c2 = (8, 14)) (L_X_which_24 κ  FU a0 c2 ((-2) : Int32) ((-1) : Int32) (0 : Int32) st)))
theorem l_X_which_24 {κ : Ko} {F : Int32 → AS → Prop} {v : Int32} {s' : AS} (k : F v s') : ∀ (d : Nat) (a0 : Nat) (a2 : Nat) (x3 : Int32) (x4 : Int32) (x5 : Int32) (st : AS), ly κ a0 = (11, 15) → ly κ a2 = (8, 14) → L_X_which_24 κ  d a0 a2 x3 x4 x5 st = some (v, s') → V κ M_X_which (RI F) 24 [some (.ref a0), none, some (.ref a2), some (.int x3), some (.int x4), some (.int x5), none, none] [] st := by
  intro d
  induction d with
  | zero =>
    intro a0 a2 x3 x4 x5 st l_a0 l_a2 h
    exact nn_some h
  | succ d ih =>
    intro a0 a2 x3 x4 x5 st l_a0 l_a2 h
    rw [L_X_which_24] at h
    refine b_X_which_24  (k1 := fun e12 => ?_) (k2 := fun e12 => ?_)
    · replace h := if_t e12 h
      exact b_X_which_77  (k1 := lfI h k)
    · replace h := if_f e12 h
      obtain ⟨j9, hdj9, h⟩ := jn_some h
      have hj9 : ∀ (v10 : Int32) (s11 : AS), j9 v10 s11 = some (v, s') → V κ M_X_which (RI F) 55 [some (.ref a0), none, some (.ref a2), some (.int x3), some (.int x4), some (.int x5), none, none] [.int v10] s11 := by
        intro v10 s11 h
        rw [hdj9] at h
        have K14 : V κ M_X_which (RI F) 24 [some (.ref a0), none, some (.ref a2), some (.int (if v10 ≤ x4 then x3 else x5 : Int32)), some (.int (if v10 ≤ x4 then x4 else v10 : Int32)), some (.int (x5 + 1)), none, none] [] s11 := by
          exact ih _ _ _ _ _ _ l_a0 l_a2 h
        refine b_X_which_55  (k1 := fun e15 => ?_) (k2 := fun e15 => ?_)
        · refine b_X_which_71  (k1 := ?_)
          exact (ite_t (P := fun z => V κ M_X_which (RI F) 24 [some (.ref a0), none, some (.ref a2), some (.int x3), some (.int z), some (.int (x5 + 1)), none, none] [] s11) e15 (ite_t (P := fun z => V κ M_X_which (RI F) 24 [some (.ref a0), none, some (.ref a2), some (.int z), some (.int (if v10 ≤ x4 then x4 else v10 : Int32)), some (.int (x5 + 1)), none, none] [] s11) e15 K14))
        · refine b_X_which_64  (k1 := ?_)
          exact (ite_f (P := fun z => V κ M_X_which (RI F) 24 [some (.ref a0), none, some (.ref a2), some (.int x5), some (.int z), some (.int (x5 + 1)), none, none] [] s11) e15 (ite_f (P := fun z => V κ M_X_which (RI F) 24 [some (.ref a0), none, some (.ref a2), some (.int z), some (.int (if v10 ≤ x4 then x4 else v10 : Int32)), some (.int (x5 + 1)), none, none] [] s11) e15 K14))
      clear hdj9
      obtain ⟨v4, h16, h⟩ := bnd_some h
      refine b_X_which_31 (l_a0 := l_a0) (k1 := t_X_doingAt l_a0 h16 ?_)
      rcases v4 with _ | c5
      · replace h := nul_n h
        refine b_X_which_37_RRN  (k1 := ?_)
        exact hj9 _ _  h
      · obtain ⟨l6, h⟩ := grd_some (nul_s h)
        obtain ⟨v7, s8, h17, h⟩ := bnd2_some h
        refine b_X_which_37_RRR (l_a0 := l_a0) (k1 := t_X_alikeAfresh l_a0 l_a2 l6 h17 ?_)
        exact hj9 _ _  h
theorem t_X_which {κ : Ko} {F : Int32 → AS → Prop} {a0 : Nat} {x1 : Int32} {st : AS} {v : Int32} {s' : AS} (l_a0 : ly κ a0 = (11, 15)) (h : f_X_which κ a0 x1 st = some (v, s')) (k : F v s') : C κ M_X_which [.ref a0, .int x1] st (RI F) := by
  unfold f_X_which at h
  refine e_X_which ?_
  obtain ⟨v1, h18, h⟩ := bnd_some h
  refine b_X_which_0 (l_a0 := l_a0) (k1 := t_Pl_get (co11 21 5 3 rfl l_a0) h18 ?_)
  rcases v1 with _ | c2
  · replace h := nul_n h
    exact b_X_which_8_RN  (k1 := lfI h k)
  · obtain ⟨l3, h⟩ := grd_some (nul_s h)
    refine b_X_which_8_RR  (k1 := ?_)
    refine l_X_which_24 k FU _ _ _ _ _ _ l_a0 l3 h
noncomputable def f_Sh_seedLeft (κ : Ko) (a0 : Nat) (st : AS) : Int32 := ((gl st a0 13 : Int64).toInt32)
theorem t_Sh_seedLeft {κ : Ko} {F : Int32 → AS → Prop} {a0 : Nat} {st : AS} {v : Int32} (l_a0 : ly κ a0 = (8, 14)) (h : f_Sh_seedLeft κ a0 st = v) (k : F v st) : C κ M_Sh_seedLeft [.ref a0] st (RI F) := by
  unfold f_Sh_seedLeft at h
  refine e_Sh_seedLeft ?_
  exact b_Sh_seedLeft_0 (l_a0 := l_a0) (k1 := lfIPT h k)
noncomputable def L_X_runs_98 (κ : Ko) : Nat → Nat → Int32 → Int32 → Nat → Nat → Int32 → Int32 → AS → Option (Int32 × AS)
  | 0, _, _, _, _, _, _, _, _ => none
  | d + 1, a0, x4, x5, a6, a7, x9, x11, st => bnd2 (f_Dg_doTo κ a6 (a0 + 54) st) (fun v11 s12 => bnd (f_Sh_lengthOfAll κ (a0 + 54) s12) (fun v13 => if x4 ≤ (x11 + 1) then some ((if v13 < x5 then x9 else x9 + 1 : Int32), s12) else bnd (f_Sh_beginAfresh κ (a0 + 54) a7 (f_Sh_seedLeft κ (a0 + 54) s12) s12) (fun s14 => L_X_runs_98 κ  d a0 x4 x5 a6 a7 (if v13 < x5 then x9 else x9 + 1 : Int32) (x11 + 1) s14)))
noncomputable def f_X_runs (κ : Ko) (a0 : Nat) (x1 : Int32) (x2 : Int32) (x3 : Int32) (x4 : Int32) (x5 : Int32) (st : AS) : Option (Int32 × AS) := bnd (f_X_doingAt κ a0 x1 st) (fun v1 => nul v1 (bnd (f_Pl_get κ (a0 + 21) x2 st) (fun v25 => nul v25 (jn (fun (v33 : Int32) => some (((-1) : Int32), st)) fun j32 => jn (j32 (0 : Int32)) fun j31 => if x3 < 0 then j31 else if (wi ((x4 : Int32).toInt64) (1 : Int64) (10 : Int64)) = 0 then j31 else if (wi ((x5 : Int32).toInt64) (0 : Int64) (99999 : Int64)) = 0 then j31 else j32 (1 : Int32)) (fun c26 => grd (ly κ c26 = (8, 14)) (jn (fun (v30 : Int32) => some (((-1) : Int32), st)) fun j29 => jn (j29 (0 : Int32)) fun j28 => if x3 < 0 then j28 else if (wi ((x4 : Int32).toInt64) (1 : Int64) (10 : Int64)) = 0 then j28 else if (wi ((x5 : Int32).toInt64) (0 : Int64) (99999 : Int64)) = 0 then j28 else j29 (1 : Int32))))) (fun c2 => grd (ly κ c2 = (2, 5)) (bnd (f_Pl_get κ (a0 + 21) x2 st) (fun v4 => nul v4 (jn (fun (v24 : Int32) => some (((-1) : Int32), st)) fun j23 => jn (j23 (0 : Int32)) fun j22 => if x3 < 0 then j22 else if (wi ((x4 : Int32).toInt64) (1 : Int64) (10 : Int64)) = 0 then j22 else if (wi ((x5 : Int32).toInt64) (0 : Int64) (99999 : Int64)) = 0 then j22 else j23 (1 : Int32)) (fun c5 => grd (ly κ c5 = (8, 14)) (jn (fun (v9 : Int32) => if v9 = 0 then some (((-1) : Int32), st) else if x4 ≤ (0 : Int32) then some ((0 : Int32), st) else bnd (f_Sh_beginAfresh κ (a0 + 54) c5 x3 st) (fun s10 => L_X_runs_98 κ  FU a0 x4 x5 c2 c5 (0 : Int32) (0 : Int32) s10)) fun j8 => jn (j8 (0 : Int32)) fun j7 => if x3 < 0 then j7 else if (wi ((x4 : Int32).toInt64) (1 : Int64) (10 : Int64)) = 0 then j7 else if (wi ((x5 : Int32).toInt64) (0 : Int64) (99999 : Int64)) = 0 then j7 else j8 (1 : Int32)))))))
theorem l_X_runs_98 {κ : Ko} {F : Int32 → AS → Prop} {v : Int32} {s' : AS} (k : F v s') : ∀ (d : Nat) (a0 : Nat) (x4 : Int32) (x5 : Int32) (a6 : Nat) (a7 : Nat) (x9 : Int32) (x11 : Int32) (st : AS), ly κ a0 = (11, 15) → ly κ a6 = (2, 5) → ly κ a7 = (8, 14) → L_X_runs_98 κ  d a0 x4 x5 a6 a7 x9 x11 st = some (v, s') → V κ M_X_runs (RI F) 98 [some (.ref a0), none, none, none, some (.int x4), some (.int x5), some (.ref a6), some (.ref a7), none, some (.int x9), none, some (.int x11)] [] st := by
  intro d
  induction d with
  | zero =>
    intro a0 x4 x5 a6 a7 x9 x11 st l_a0 l_a6 l_a7 h
    exact nn_some h
  | succ d ih =>
    intro a0 x4 x5 a6 a7 x9 x11 st l_a0 l_a6 l_a7 h
    rw [L_X_runs_98] at h
    obtain ⟨v11, s12, h15, h⟩ := bnd2_some h
    refine b_X_runs_98 (l_a0 := l_a0) (l_a6 := l_a6) (k1 := t_Dg_doTo l_a6 (co11 54 8 14 rfl l_a0) h15 ?_)
    obtain ⟨v13, h16, h⟩ := bnd_some h
    refine b_X_runs_107 (l_a0 := l_a0) (k1 := t_Sh_lengthOfAll (co11 54 8 14 rfl l_a0) h16 ?_)
    have K18 : V κ M_X_runs (RI F) 123 [some (.ref a0), none, none, none, some (.int x4), some (.int x5), some (.ref a6), some (.ref a7), none, some (.int (if v13 < x5 then x9 else x9 + 1 : Int32)), none, some (.int x11)] [] s12 := by
      refine b_X_runs_123 (l_a0 := l_a0) (k1 := t_Sh_seedLeft (co11 54 8 14 rfl l_a0) rfl ?_)
      refine b_X_runs_130  (k1 := ?_)
      refine b_X_runs_80_v1  (k1 := fun e19 => ?_) (k2 := fun e19 => ?_)
      · replace h := if_t e19 h
        exact b_X_runs_138  (k1 := lfI h k)
      · replace h := if_f e19 h
        obtain ⟨s14, h20, h⟩ := bnd_some h
        refine b_X_runs_87_v1 (l_a0 := l_a0) (k1 := t_Sh_beginAfresh (co11 54 8 14 rfl l_a0) l_a7 h20 ?_)
        exact ih _ _ _ _ _ _ _ _ l_a0 l_a6 l_a7 h
    refine b_X_runs_115  (k1 := fun e21 => ?_) (k2 := fun e21 => ?_)
    · exact (ite_t (P := fun z => V κ M_X_runs (RI F) 123 [some (.ref a0), none, none, none, some (.int x4), some (.int x5), some (.ref a6), some (.ref a7), none, some (.int z), none, some (.int x11)] [] s12) e21 K18)
    · refine b_X_runs_120  (k1 := ?_)
      exact (ite_f (P := fun z => V κ M_X_runs (RI F) 123 [some (.ref a0), none, none, none, some (.int x4), some (.int x5), some (.ref a6), some (.ref a7), none, some (.int z), none, some (.int x11)] [] s12) e21 K18)
theorem t_X_runs {κ : Ko} {F : Int32 → AS → Prop} {a0 : Nat} {x1 : Int32} {x2 : Int32} {x3 : Int32} {x4 : Int32} {x5 : Int32} {st : AS} {v : Int32} {s' : AS} (l_a0 : ly κ a0 = (11, 15)) (h : f_X_runs κ a0 x1 x2 x3 x4 x5 st = some (v, s')) (k : F v s') : C κ M_X_runs [.ref a0, .int x1, .int x2, .int x3, .int x4, .int x5] st (RI F) := by
  unfold f_X_runs at h
  refine e_X_runs ?_
  obtain ⟨v1, h34, h⟩ := bnd_some h
  refine b_X_runs_0 (l_a0 := l_a0) (k1 := t_X_doingAt l_a0 h34 ?_)
  rcases v1 with _ | c2
  · replace h := nul_n h
    obtain ⟨v25, h35, h⟩ := bnd_some h
    refine b_X_runs_5_RN (l_a0 := l_a0) (k1 := t_Pl_get (co11 21 5 3 rfl l_a0) h35 ?_)
    rcases v25 with _ | c26
    · replace h := nul_n h
      obtain ⟨j32, hdj32, h⟩ := jn_some h
      have hj32 : ∀ (v33 : Int32), j32 v33 = some (v, s') → V κ M_X_runs (RI F) 52 [some (.ref a0), none, none, some (.int x3), some (.int x4), some (.int x5), some (.null), some (.null), none, none, none, none] [.int v33] st := by
        intro v33 h
        rw [hdj32] at h
        exact b_X_runs_52_RNN  (k1 := lfI h k)
      clear hdj32
      obtain ⟨j31, hdj31, h⟩ := jn_some h
      have hj31 : j31 = some (v, s') → V κ M_X_runs (RI F) 51 [some (.ref a0), none, none, some (.int x3), some (.int x4), some (.int x5), some (.null), some (.null), none, none, none, none] [] st := by
        intro h
        rw [hdj31] at h
        refine b_X_runs_51_RNN  (k1 := ?_)
        exact hj32 _  h
      clear hdj31
      refine b_X_runs_15_RNN  (k1 := fun e36 => ?_) (k2 := fun e36 => ?_)
      · replace h := if_t e36 h
        exact hj31  h
      · replace h := if_f e36 h
        refine b_X_runs_21_RNN  (k1 := t_X_within  rfl ?_)
        refine b_X_runs_31_RNN  (k1 := fun e37 => ?_) (k2 := fun e37 => ?_)
        · replace h := if_t e37 h
          exact hj31  h
        · replace h := if_f e37 h
          refine b_X_runs_34_RNN  (k1 := t_X_within  rfl ?_)
          refine b_X_runs_44_RNN  (k1 := fun e38 => ?_) (k2 := fun e38 => ?_)
          · replace h := if_t e38 h
            exact hj31  h
          · replace h := if_f e38 h
            refine b_X_runs_47_RNN  (k1 := ?_)
            exact hj32 _  h
    · obtain ⟨l27, h⟩ := grd_some (nul_s h)
      obtain ⟨j29, hdj29, h⟩ := jn_some h
      have hj29 : ∀ (v30 : Int32), j29 v30 = some (v, s') → V κ M_X_runs (RI F) 52 [some (.ref a0), none, none, some (.int x3), some (.int x4), some (.int x5), some (.null), some (.ref c26), none, none, none, none] [.int v30] st := by
        intro v30 h
        rw [hdj29] at h
        exact b_X_runs_52_RNR  (k1 := lfI h k)
      clear hdj29
      obtain ⟨j28, hdj28, h⟩ := jn_some h
      have hj28 : j28 = some (v, s') → V κ M_X_runs (RI F) 51 [some (.ref a0), none, none, some (.int x3), some (.int x4), some (.int x5), some (.null), some (.ref c26), none, none, none, none] [] st := by
        intro h
        rw [hdj28] at h
        refine b_X_runs_51_RNR  (k1 := ?_)
        exact hj29 _  h
      clear hdj28
      refine b_X_runs_15_RNR  (k1 := fun e39 => ?_) (k2 := fun e39 => ?_)
      · replace h := if_t e39 h
        exact hj28  h
      · replace h := if_f e39 h
        refine b_X_runs_21_RNR  (k1 := t_X_within  rfl ?_)
        refine b_X_runs_31_RNR  (k1 := fun e40 => ?_) (k2 := fun e40 => ?_)
        · replace h := if_t e40 h
          exact hj28  h
        · replace h := if_f e40 h
          refine b_X_runs_34_RNR  (k1 := t_X_within  rfl ?_)
          refine b_X_runs_44_RNR  (k1 := fun e41 => ?_) (k2 := fun e41 => ?_)
          · replace h := if_t e41 h
            exact hj28  h
          · replace h := if_f e41 h
            refine b_X_runs_47_RNR  (k1 := ?_)
            exact hj29 _  h
  · obtain ⟨l3, h⟩ := grd_some (nul_s h)
    obtain ⟨v4, h42, h⟩ := bnd_some h
    refine b_X_runs_5_RR (l_a0 := l_a0) (k1 := t_Pl_get (co11 21 5 3 rfl l_a0) h42 ?_)
    rcases v4 with _ | c5
    · replace h := nul_n h
      obtain ⟨j23, hdj23, h⟩ := jn_some h
      have hj23 : ∀ (v24 : Int32), j23 v24 = some (v, s') → V κ M_X_runs (RI F) 52 [some (.ref a0), none, none, some (.int x3), some (.int x4), some (.int x5), some (.ref c2), some (.null), none, none, none, none] [.int v24] st := by
        intro v24 h
        rw [hdj23] at h
        exact b_X_runs_52_RRN  (k1 := lfI h k)
      clear hdj23
      obtain ⟨j22, hdj22, h⟩ := jn_some h
      have hj22 : j22 = some (v, s') → V κ M_X_runs (RI F) 51 [some (.ref a0), none, none, some (.int x3), some (.int x4), some (.int x5), some (.ref c2), some (.null), none, none, none, none] [] st := by
        intro h
        rw [hdj22] at h
        refine b_X_runs_51_RRN  (k1 := ?_)
        exact hj23 _  h
      clear hdj22
      refine b_X_runs_15_RRN  (k1 := fun e43 => ?_) (k2 := fun e43 => ?_)
      · replace h := if_t e43 h
        exact hj22  h
      · replace h := if_f e43 h
        refine b_X_runs_21_RRN  (k1 := t_X_within  rfl ?_)
        refine b_X_runs_31_RRN  (k1 := fun e44 => ?_) (k2 := fun e44 => ?_)
        · replace h := if_t e44 h
          exact hj22  h
        · replace h := if_f e44 h
          refine b_X_runs_34_RRN  (k1 := t_X_within  rfl ?_)
          refine b_X_runs_44_RRN  (k1 := fun e45 => ?_) (k2 := fun e45 => ?_)
          · replace h := if_t e45 h
            exact hj22  h
          · replace h := if_f e45 h
            refine b_X_runs_47_RRN  (k1 := ?_)
            exact hj23 _  h
    · obtain ⟨l6, h⟩ := grd_some (nul_s h)
      obtain ⟨j8, hdj8, h⟩ := jn_some h
      have hj8 : ∀ (v9 : Int32), j8 v9 = some (v, s') → V κ M_X_runs (RI F) 52 [some (.ref a0), none, none, some (.int x3), some (.int x4), some (.int x5), some (.ref c2), some (.ref c5), none, none, none, none] [.int v9] st := by
        intro v9 h
        rw [hdj8] at h
        refine b_X_runs_52_RRR  (k1 := fun e46 => ?_) (k2 := fun e46 => ?_)
        · replace h := if_f e46 h
          refine b_X_runs_71  (k1 := ?_)
          refine b_X_runs_80_v0  (k1 := fun e47 => ?_) (k2 := fun e47 => ?_)
          · replace h := if_t e47 h
            exact b_X_runs_138  (k1 := lfI h k)
          · replace h := if_f e47 h
            obtain ⟨s10, h48, h⟩ := bnd_some h
            refine b_X_runs_87_v0 (l_a0 := l_a0) (k1 := t_Sh_beginAfresh (co11 54 8 14 rfl l_a0) l6 h48 ?_)
            refine l_X_runs_98 k FU _ _ _ _ _ _ _ _ l_a0 l3 l6 h
        · replace h := if_t e46 h
          exact b_X_runs_69  (k1 := lfI h k)
      clear hdj8
      obtain ⟨j7, hdj7, h⟩ := jn_some h
      have hj7 : j7 = some (v, s') → V κ M_X_runs (RI F) 51 [some (.ref a0), none, none, some (.int x3), some (.int x4), some (.int x5), some (.ref c2), some (.ref c5), none, none, none, none] [] st := by
        intro h
        rw [hdj7] at h
        refine b_X_runs_51_RRR  (k1 := ?_)
        exact hj8 _  h
      clear hdj7
      refine b_X_runs_15_RRR  (k1 := fun e49 => ?_) (k2 := fun e49 => ?_)
      · replace h := if_t e49 h
        exact hj7  h
      · replace h := if_f e49 h
        refine b_X_runs_21_RRR  (k1 := t_X_within  rfl ?_)
        refine b_X_runs_31_RRR  (k1 := fun e50 => ?_) (k2 := fun e50 => ?_)
        · replace h := if_t e50 h
          exact hj7  h
        · replace h := if_f e50 h
          refine b_X_runs_34_RRR  (k1 := t_X_within  rfl ?_)
          refine b_X_runs_44_RRR  (k1 := fun e51 => ?_) (k2 := fun e51 => ?_)
          · replace h := if_t e51 h
            exact hj7  h
          · replace h := if_f e51 h
            refine b_X_runs_47_RRR  (k1 := ?_)
            exact hj8 _  h
noncomputable def L_Sh_greatestLong_4 (κ : Ko) (st : AS) : Nat → Nat → Int32 → Int32 → Option Int32
  | 0, _, _, _ => none
  | d + 1, a0, x1, x2 => if (gi st a0 11) ≤ x2 then some x1 else bnd (f_Sh_longOf κ a0 x2 st) (fun v1 => L_Sh_greatestLong_4 κ st  d a0 (imax x1 v1) (x2 + 1))
noncomputable def f_Sh_greatestLong (κ : Ko) (a0 : Nat) (st : AS) : Option Int32 := L_Sh_greatestLong_4 κ st  FU a0 (0 : Int32) (0 : Int32)
theorem l_Sh_greatestLong_4 {κ : Ko} {F : Int32 → AS → Prop} {v : Int32} {st : AS} (k : F v st) : ∀ (d : Nat) (a0 : Nat) (x1 : Int32) (x2 : Int32), ly κ a0 = (8, 14) → L_Sh_greatestLong_4 κ st  d a0 x1 x2 = some v → V κ M_Sh_greatestLong (RI F) 4 [some (.ref a0), some (.int x1), some (.int x2)] [] st := by
  intro d
  induction d with
  | zero =>
    intro a0 x1 x2 l_a0 h
    exact nn_some h
  | succ d ih =>
    intro a0 x1 x2 l_a0 h
    rw [L_Sh_greatestLong_4] at h
    refine b_Sh_greatestLong_4 (l_a0 := l_a0) (k1 := fun e2 => ?_) (k2 := fun e2 => ?_)
    · replace h := if_t e2 h
      exact b_Sh_greatestLong_28  (k1 := lfIP h k)
    · replace h := if_f e2 h
      obtain ⟨v1, h3, h⟩ := bnd_some h
      refine b_Sh_greatestLong_12 (l_a0 := l_a0) (k1 := t_Sh_longOf l_a0 h3 ?_)
      refine b_Sh_greatestLong_18  (k1 := t_Jm_max  rfl ?_)
      refine b_Sh_greatestLong_21  (k1 := ?_)
      exact ih _ _ _ l_a0 h
theorem t_Sh_greatestLong {κ : Ko} {F : Int32 → AS → Prop} {a0 : Nat} {st : AS} {v : Int32} (l_a0 : ly κ a0 = (8, 14)) (h : f_Sh_greatestLong κ a0 st = some v) (k : F v st) : C κ M_Sh_greatestLong [.ref a0] st (RI F) := by
  unfold f_Sh_greatestLong at h
  refine e_Sh_greatestLong ?_
  refine b_Sh_greatestLong_0  (k1 := ?_)
  refine l_Sh_greatestLong_4 k FU _ _ _ l_a0 h
noncomputable def L_X_until_48 (κ : Ko) : Nat → Nat → Int32 → Int32 → Int32 → AS → Option (Int32 × AS)
  | 0, _, _, _, _, _ => none
  | d + 1, a0, x2, x3, x5, st => if 60 < x5 then some (x5, st) else bnd (f_Sh_greatestLong κ (a0 + 54) st) (fun v5 => if v5 ≤ x3 then some (x5, st) else bnd2 (f_Sh_crush κ (a0 + 54) x2 st) (fun v6 s7 => if v6 = ((-1)) then some (((-2) : Int32), s7) else L_X_until_48 κ  d a0 x2 x3 (x5 + 1) s7))
noncomputable def f_X_until (κ : Ko) (a0 : Nat) (x1 : Int32) (x2 : Int32) (x3 : Int32) (st : AS) : Option (Int32 × AS) := bnd (f_Pl_get κ (a0 + 21) x1 st) (fun v1 => nul v1 (some (((-1) : Int32), st)) (fun c2 => grd (ly κ c2 = (8, 14)) (jn (some (((-1) : Int32), st)) fun j13 => if (f_X_isTight κ x2 st) = 0 then j13 else if (wi ((x3 : Int32).toInt64) (1 : Int64) (200 : Int64)) = 0 then j13 else bnd (f_Sh_becomeLike κ (a0 + 54) c2 st) (fun s4 => L_X_until_48 κ  FU a0 x2 x3 (0 : Int32) s4))))
theorem l_X_until_48 {κ : Ko} {F : Int32 → AS → Prop} {v : Int32} {s' : AS} (k : F v s') : ∀ (d : Nat) (a0 : Nat) (x2 : Int32) (x3 : Int32) (x5 : Int32) (st : AS), ly κ a0 = (11, 15) → L_X_until_48 κ  d a0 x2 x3 x5 st = some (v, s') → V κ M_X_until (RI F) 48 [some (.ref a0), none, some (.int x2), some (.int x3), none, some (.int x5)] [] st := by
  intro d
  induction d with
  | zero =>
    intro a0 x2 x3 x5 st l_a0 h
    exact nn_some h
  | succ d ih =>
    intro a0 x2 x3 x5 st l_a0 h
    rw [L_X_until_48] at h
    refine b_X_until_48  (k1 := fun e8 => ?_) (k2 := fun e8 => ?_)
    · replace h := if_t e8 h
      exact b_X_until_87  (k1 := lfI h k)
    · replace h := if_f e8 h
      obtain ⟨v5, h9, h⟩ := bnd_some h
      refine b_X_until_55 (l_a0 := l_a0) (k1 := t_Sh_greatestLong (co11 54 8 14 rfl l_a0) h9 ?_)
      refine b_X_until_62  (k1 := fun e10 => ?_) (k2 := fun e10 => ?_)
      · replace h := if_t e10 h
        exact b_X_until_87  (k1 := lfI h k)
      · replace h := if_f e10 h
        obtain ⟨v6, s7, h11, h⟩ := bnd2_some h
        refine b_X_until_66 (l_a0 := l_a0) (k1 := t_Sh_crush (co11 54 8 14 rfl l_a0) h11 ?_)
        refine b_X_until_74  (k1 := fun e12 => ?_) (k2 := fun e12 => ?_)
        · replace h := if_f e12 h
          refine b_X_until_81  (k1 := ?_)
          exact ih _ _ _ _ _ l_a0 h
        · replace h := if_t e12 h
          exact b_X_until_78  (k1 := lfI h k)
theorem t_X_until {κ : Ko} {F : Int32 → AS → Prop} {a0 : Nat} {x1 : Int32} {x2 : Int32} {x3 : Int32} {st : AS} {v : Int32} {s' : AS} (l_a0 : ly κ a0 = (11, 15)) (h : f_X_until κ a0 x1 x2 x3 st = some (v, s')) (k : F v s') : C κ M_X_until [.ref a0, .int x1, .int x2, .int x3] st (RI F) := by
  unfold f_X_until at h
  refine e_X_until ?_
  obtain ⟨v1, h14, h⟩ := bnd_some h
  refine b_X_until_0 (l_a0 := l_a0) (k1 := t_Pl_get (co11 21 5 3 rfl l_a0) h14 ?_)
  rcases v1 with _ | c2
  · replace h := nul_n h
    exact b_X_until_8_RN  (k1 := lfI h k)
  · obtain ⟨l3, h⟩ := grd_some (nul_s h)
    refine b_X_until_8_RR  (k1 := t_X_isTight  rfl ?_)
    obtain ⟨j13, hdj13, h⟩ := jn_some h
    have hj13 : j13 = some (v, s') → V κ M_X_until (RI F) 34 [none, none, none, none, none, none] [] st := by
      intro h
      rw [hdj13] at h
      exact b_X_until_34  (k1 := lfI h k)
    clear hdj13
    refine b_X_until_19  (k1 := fun e15 => ?_) (k2 := fun e15 => ?_)
    · replace h := if_t e15 h
      exact hj13  h
    · replace h := if_f e15 h
      refine b_X_until_22  (k1 := t_X_within  rfl ?_)
      refine b_X_until_31  (k1 := fun e16 => ?_) (k2 := fun e16 => ?_)
      · replace h := if_f e16 h
        obtain ⟨s4, h17, h⟩ := bnd_some h
        refine b_X_until_36 (l_a0 := l_a0) (k1 := t_Sh_becomeLike (co11 54 8 14 rfl l_a0) l3 h17 ?_)
        refine b_X_until_45  (k1 := ?_)
        refine l_X_until_48 k FU _ _ _ _ _ l_a0 h
      · replace h := if_t e16 h
        exact hj13  h
noncomputable def L_Pl_ridgesOfAll_4 (κ : Ko) (st : AS) : Nat → Nat → Int32 → Int32 → Option Int32
  | 0, _, _, _ => none
  | d + 1, a0, x1, x2 => if (gi st a0 1) ≤ x2 then some x1 else if 6 ≤ x2 then some x1 else grd (vp_in x2 6) (bnd (gr st (a0 + 1) (x2 : Int32).toNatClampNeg) (fun c3 => grd (ly κ c3 = (8, 14)) (L_Pl_ridgesOfAll_4 κ st  d a0 (x1 + (f_Sh_ridgeCount κ c3 st)) (x2 + 1))))
noncomputable def f_Pl_ridgesOfAll (κ : Ko) (a0 : Nat) (st : AS) : Option Int32 := L_Pl_ridgesOfAll_4 κ st  FU a0 (0 : Int32) (0 : Int32)
theorem l_Pl_ridgesOfAll_4 {κ : Ko} {F : Int32 → AS → Prop} {v : Int32} {st : AS} (k : F v st) : ∀ (d : Nat) (a0 : Nat) (x1 : Int32) (x2 : Int32), ly κ a0 = (5, 3) → L_Pl_ridgesOfAll_4 κ st  d a0 x1 x2 = some v → V κ M_Pl_ridgesOfAll (RI F) 4 [some (.ref a0), some (.int x1), some (.int x2)] [] st := by
  intro d
  induction d with
  | zero =>
    intro a0 x1 x2 l_a0 h
    exact nn_some h
  | succ d ih =>
    intro a0 x1 x2 l_a0 h
    rw [L_Pl_ridgesOfAll_4] at h
    refine b_Pl_ridgesOfAll_4 (l_a0 := l_a0) (k1 := fun e5 => ?_) (k2 := fun e5 => ?_)
    · replace h := if_t e5 h
      exact b_Pl_ridgesOfAll_39  (k1 := lfIP h k)
    · replace h := if_f e5 h
      refine b_Pl_ridgesOfAll_12 (l_a0 := l_a0) (k1 := fun e6 => ?_) (k2 := fun e6 => ?_)
      · replace h := if_t e6 h
        exact b_Pl_ridgesOfAll_39  (k1 := lfIP h k)
      · replace h := if_f e6 h
        obtain ⟨h1, h⟩ := grd_some h
        obtain ⟨c3, h2, h⟩ := bnd_some h
        obtain ⟨l4, h⟩ := grd_some h
        refine b_Pl_ridgesOfAll_21 (l_a0 := l_a0) (b1 := h1) (g2 := h2) (l_r3 := l4) (k3 := t_Sh_ridgeCount l4 rfl ?_)
        refine b_Pl_ridgesOfAll_31  (k1 := ?_)
        exact ih _ _ _ l_a0 h
theorem t_Pl_ridgesOfAll {κ : Ko} {F : Int32 → AS → Prop} {a0 : Nat} {st : AS} {v : Int32} (l_a0 : ly κ a0 = (5, 3)) (h : f_Pl_ridgesOfAll κ a0 st = some v) (k : F v st) : C κ M_Pl_ridgesOfAll [.ref a0] st (RI F) := by
  unfold f_Pl_ridgesOfAll at h
  refine e_Pl_ridgesOfAll ?_
  refine b_Pl_ridgesOfAll_0  (k1 := ?_)
  refine l_Pl_ridgesOfAll_4 k FU _ _ _ l_a0 h
noncomputable def L_Pl_facetsOfAll_4 (κ : Ko) (st : AS) : Nat → Nat → Int32 → Int32 → Option Int32
  | 0, _, _, _ => none
  | d + 1, a0, x1, x2 => if (gi st a0 1) ≤ x2 then some x1 else if 6 ≤ x2 then some x1 else grd (vp_in x2 6) (bnd (gr st (a0 + 1) (x2 : Int32).toNatClampNeg) (fun c3 => grd (ly κ c3 = (8, 14)) (L_Pl_facetsOfAll_4 κ st  d a0 (x1 + (f_Sh_facetCount κ c3 st)) (x2 + 1))))
noncomputable def f_Pl_facetsOfAll (κ : Ko) (a0 : Nat) (st : AS) : Option Int32 := L_Pl_facetsOfAll_4 κ st  FU a0 (0 : Int32) (0 : Int32)
theorem l_Pl_facetsOfAll_4 {κ : Ko} {F : Int32 → AS → Prop} {v : Int32} {st : AS} (k : F v st) : ∀ (d : Nat) (a0 : Nat) (x1 : Int32) (x2 : Int32), ly κ a0 = (5, 3) → L_Pl_facetsOfAll_4 κ st  d a0 x1 x2 = some v → V κ M_Pl_facetsOfAll (RI F) 4 [some (.ref a0), some (.int x1), some (.int x2)] [] st := by
  intro d
  induction d with
  | zero =>
    intro a0 x1 x2 l_a0 h
    exact nn_some h
  | succ d ih =>
    intro a0 x1 x2 l_a0 h
    rw [L_Pl_facetsOfAll_4] at h
    refine b_Pl_facetsOfAll_4 (l_a0 := l_a0) (k1 := fun e5 => ?_) (k2 := fun e5 => ?_)
    · replace h := if_t e5 h
      exact b_Pl_facetsOfAll_39  (k1 := lfIP h k)
    · replace h := if_f e5 h
      refine b_Pl_facetsOfAll_12 (l_a0 := l_a0) (k1 := fun e6 => ?_) (k2 := fun e6 => ?_)
      · replace h := if_t e6 h
        exact b_Pl_facetsOfAll_39  (k1 := lfIP h k)
      · replace h := if_f e6 h
        obtain ⟨h1, h⟩ := grd_some h
        obtain ⟨c3, h2, h⟩ := bnd_some h
        obtain ⟨l4, h⟩ := grd_some h
        refine b_Pl_facetsOfAll_21 (l_a0 := l_a0) (b1 := h1) (g2 := h2) (l_r3 := l4) (k3 := t_Sh_facetCount l4 rfl ?_)
        refine b_Pl_facetsOfAll_31  (k1 := ?_)
        exact ih _ _ _ l_a0 h
theorem t_Pl_facetsOfAll {κ : Ko} {F : Int32 → AS → Prop} {a0 : Nat} {st : AS} {v : Int32} (l_a0 : ly κ a0 = (5, 3)) (h : f_Pl_facetsOfAll κ a0 st = some v) (k : F v st) : C κ M_Pl_facetsOfAll [.ref a0] st (RI F) := by
  unfold f_Pl_facetsOfAll at h
  refine e_Pl_facetsOfAll ?_
  refine b_Pl_facetsOfAll_0  (k1 := ?_)
  refine l_Pl_facetsOfAll_4 k FU _ _ _ l_a0 h
noncomputable def f_X_count (κ : Ko) (a0 : Nat) (x1 : Int32) (st : AS) : Option Int32 := if x1 = 0 then some (f_Pl_size κ (a0 + 21) st) else if x1 = 1 then some (gat (gi st (a0 + 7)) 4 (0 : Int32)) else if x1 = 2 then some (gat (gi st (a0 + 7)) 4 (1 : Int32)) else if x1 = 3 then some (gat (gi st (a0 + 7)) 4 (2 : Int32)) else if x1 = 4 then some (gat (gi st (a0 + 7)) 4 (3 : Int32)) else if x1 = 5 then bnd (f_Pl_facetsOfAll κ (a0 + 21) st) (fun v1 => some v1) else if x1 = 6 then bnd (f_Pl_ridgesOfAll κ (a0 + 21) st) (fun v2 => some v2) else if x1 = 7 then some (gi st a0 1) else some ((-1) : Int32)
theorem t_X_count {κ : Ko} {F : Int32 → AS → Prop} {a0 : Nat} {x1 : Int32} {st : AS} {v : Int32} (l_a0 : ly κ a0 = (11, 15)) (h : f_X_count κ a0 x1 st = some v) (k : F v st) : C κ M_X_count [.ref a0, .int x1] st (RI F) := by
  unfold f_X_count at h
  refine e_X_count ?_
  refine b_X_count_0  (k1 := fun e3 => ?_) (k2 := fun e3 => ?_) (k3 := fun e3 => ?_) (k4 := fun e3 => ?_) (k5 := fun e3 => ?_) (k6 := fun e3 => ?_) (k7 := fun e3 => ?_) (k8 := fun e3 => ?_) (k9 := fun e3 => ?_)
  · replace h := if_t e3 h
    refine b_X_count_48 (l_a0 := l_a0) (k1 := t_Pl_size (co11 21 5 3 rfl l_a0) rfl ?_)
    exact b_X_count_55  (k1 := lfIP h k)
  · replace h := if_f (fun z => by rw [z] at e3; exact absurd e3 (by decide)) h
    replace h := if_t e3 h
    refine b_X_count_56 (l_a0 := l_a0) (k1 := t_X_at (co11 7 50 4 rfl l_a0) rfl ?_)
    exact b_X_count_64  (k1 := lfIP h k)
  · replace h := if_f (fun z => by rw [z] at e3; exact absurd e3 (by decide)) h
    replace h := if_f (fun z => by rw [z] at e3; exact absurd e3 (by decide)) h
    replace h := if_t e3 h
    refine b_X_count_65 (l_a0 := l_a0) (k1 := t_X_at (co11 7 50 4 rfl l_a0) rfl ?_)
    exact b_X_count_73  (k1 := lfIP h k)
  · replace h := if_f (fun z => by rw [z] at e3; exact absurd e3 (by decide)) h
    replace h := if_f (fun z => by rw [z] at e3; exact absurd e3 (by decide)) h
    replace h := if_f (fun z => by rw [z] at e3; exact absurd e3 (by decide)) h
    replace h := if_t e3 h
    refine b_X_count_74 (l_a0 := l_a0) (k1 := t_X_at (co11 7 50 4 rfl l_a0) rfl ?_)
    exact b_X_count_82  (k1 := lfIP h k)
  · replace h := if_f (fun z => by rw [z] at e3; exact absurd e3 (by decide)) h
    replace h := if_f (fun z => by rw [z] at e3; exact absurd e3 (by decide)) h
    replace h := if_f (fun z => by rw [z] at e3; exact absurd e3 (by decide)) h
    replace h := if_f (fun z => by rw [z] at e3; exact absurd e3 (by decide)) h
    replace h := if_t e3 h
    refine b_X_count_83 (l_a0 := l_a0) (k1 := t_X_at (co11 7 50 4 rfl l_a0) rfl ?_)
    exact b_X_count_91  (k1 := lfIP h k)
  · replace h := if_f (fun z => by rw [z] at e3; exact absurd e3 (by decide)) h
    replace h := if_f (fun z => by rw [z] at e3; exact absurd e3 (by decide)) h
    replace h := if_f (fun z => by rw [z] at e3; exact absurd e3 (by decide)) h
    replace h := if_f (fun z => by rw [z] at e3; exact absurd e3 (by decide)) h
    replace h := if_f (fun z => by rw [z] at e3; exact absurd e3 (by decide)) h
    replace h := if_t e3 h
    obtain ⟨v1, h4, h⟩ := bnd_some h
    refine b_X_count_92 (l_a0 := l_a0) (k1 := t_Pl_facetsOfAll (co11 21 5 3 rfl l_a0) h4 ?_)
    exact b_X_count_99  (k1 := lfIP h k)
  · replace h := if_f (fun z => by rw [z] at e3; exact absurd e3 (by decide)) h
    replace h := if_f (fun z => by rw [z] at e3; exact absurd e3 (by decide)) h
    replace h := if_f (fun z => by rw [z] at e3; exact absurd e3 (by decide)) h
    replace h := if_f (fun z => by rw [z] at e3; exact absurd e3 (by decide)) h
    replace h := if_f (fun z => by rw [z] at e3; exact absurd e3 (by decide)) h
    replace h := if_f (fun z => by rw [z] at e3; exact absurd e3 (by decide)) h
    replace h := if_t e3 h
    obtain ⟨v2, h5, h⟩ := bnd_some h
    refine b_X_count_100 (l_a0 := l_a0) (k1 := t_Pl_ridgesOfAll (co11 21 5 3 rfl l_a0) h5 ?_)
    exact b_X_count_107  (k1 := lfIP h k)
  · replace h := if_f (fun z => by rw [z] at e3; exact absurd e3 (by decide)) h
    replace h := if_f (fun z => by rw [z] at e3; exact absurd e3 (by decide)) h
    replace h := if_f (fun z => by rw [z] at e3; exact absurd e3 (by decide)) h
    replace h := if_f (fun z => by rw [z] at e3; exact absurd e3 (by decide)) h
    replace h := if_f (fun z => by rw [z] at e3; exact absurd e3 (by decide)) h
    replace h := if_f (fun z => by rw [z] at e3; exact absurd e3 (by decide)) h
    replace h := if_f (fun z => by rw [z] at e3; exact absurd e3 (by decide)) h
    replace h := if_t e3 h
    exact b_X_count_108 (l_a0 := l_a0) (k1 := lfIP h k)
  · replace h := if_f (fun z => by rw [z] at e3; exact absurd e3 (by decide)) h
    replace h := if_f (fun z => by rw [z] at e3; exact absurd e3 (by decide)) h
    replace h := if_f (fun z => by rw [z] at e3; exact absurd e3 (by decide)) h
    replace h := if_f (fun z => by rw [z] at e3; exact absurd e3 (by decide)) h
    replace h := if_f (fun z => by rw [z] at e3; exact absurd e3 (by decide)) h
    replace h := if_f (fun z => by rw [z] at e3; exact absurd e3 (by decide)) h
    replace h := if_f (fun z => by rw [z] at e3; exact absurd e3 (by decide)) h
    replace h := if_f (fun z => by rw [z] at e3; exact absurd e3 (by decide)) h
    exact b_X_count_113  (k1 := lfIP h k)
noncomputable def L_Pl_becomeLike_2 (κ : Ko) : Nat → Nat → Nat → Int32 → AS → Option AS
  | 0, _, _, _, _ => none
  | d + 1, a0, a1, x2, st => if (gi st a1 1) ≤ x2 then some (ui (ui st a0 1 (gi st a1 1)) a0 2 1) else if 6 ≤ x2 then some (ui (ui st a0 1 (gi st a1 1)) a0 2 1) else if 6 ≤ x2 then some (ui (ui st a0 1 (gi st a1 1)) a0 2 1) else grd (vp_in x2 6) (bnd (gr st (a0 + 1) (x2 : Int32).toNatClampNeg) (fun c3 => grd (ly κ c3 = (8, 14)) (grd (vp_in x2 6) (bnd (gr st (a1 + 1) (x2 : Int32).toNatClampNeg) (fun c7 => grd (ly κ c7 = (8, 14)) (bnd (f_Sh_becomeLike κ c3 c7 st) (fun s9 => L_Pl_becomeLike_2 κ  d a0 a1 (x2 + 1) s9)))))))
noncomputable def f_Pl_becomeLike (κ : Ko) (a0 : Nat) (a1 : Nat) (st : AS) : Option AS := L_Pl_becomeLike_2 κ  FU a0 a1 (0 : Int32) st
theorem l_Pl_becomeLike_2 {κ : Ko} {F : AS → Prop} {s' : AS} (k : F s') : ∀ (d : Nat) (a0 : Nat) (a1 : Nat) (x2 : Int32) (st : AS), ly κ a0 = (5, 3) → ly κ a1 = (5, 3) → L_Pl_becomeLike_2 κ  d a0 a1 x2 st = some s' → V κ M_Pl_becomeLike (RV F) 2 [some (.ref a0), some (.ref a1), some (.int x2)] [] st := by
  intro d
  induction d with
  | zero =>
    intro a0 a1 x2 st l_a0 l_a1 h
    exact nn_some h
  | succ d ih =>
    intro a0 a1 x2 st l_a0 l_a1 h
    rw [L_Pl_becomeLike_2] at h
    refine b_Pl_becomeLike_2 (l_a1 := l_a1) (k1 := fun e10 => ?_) (k2 := fun e10 => ?_)
    · replace h := if_t e10 h
      exact b_Pl_becomeLike_49 (l_a1 := l_a1) (l_a0 := l_a0) (k1 := lfV h k)
    · replace h := if_f e10 h
      refine b_Pl_becomeLike_10 (l_a1 := l_a1) (k1 := fun e11 => ?_) (k2 := fun e11 => ?_)
      · replace h := if_t e11 h
        exact b_Pl_becomeLike_49 (l_a1 := l_a1) (l_a0 := l_a0) (k1 := lfV h k)
      · replace h := if_f e11 h
        refine b_Pl_becomeLike_19 (l_a0 := l_a0) (k1 := fun e12 => ?_) (k2 := fun e12 => ?_)
        · replace h := if_t e12 h
          exact b_Pl_becomeLike_49 (l_a1 := l_a1) (l_a0 := l_a0) (k1 := lfV h k)
        · replace h := if_f e12 h
          obtain ⟨h1, h⟩ := grd_some h
          obtain ⟨c3, h2, h⟩ := bnd_some h
          obtain ⟨l4, h⟩ := grd_some h
          obtain ⟨h5, h⟩ := grd_some h
          obtain ⟨c7, h6, h⟩ := bnd_some h
          obtain ⟨l8, h⟩ := grd_some h
          obtain ⟨s9, h13, h⟩ := bnd_some h
          refine b_Pl_becomeLike_28 (l_a0 := l_a0) (b1 := h1) (g2 := h2) (l_a1 := l_a1) (b3 := h5) (g4 := h6) (l_r3 := l4) (k5 := t_Sh_becomeLike l4 l8 h13 ?_)
          refine b_Pl_becomeLike_43  (k1 := ?_)
          exact ih _ _ _ _ l_a0 l_a1 h
theorem t_Pl_becomeLike {κ : Ko} {F : AS → Prop} {a0 : Nat} {a1 : Nat} {st : AS} {s' : AS} (l_a0 : ly κ a0 = (5, 3)) (l_a1 : ly κ a1 = (5, 3)) (h : f_Pl_becomeLike κ a0 a1 st = some s') (k : F s') : C κ M_Pl_becomeLike [.ref a0, .ref a1] st (RV F) := by
  unfold f_Pl_becomeLike at h
  refine e_Pl_becomeLike ?_
  refine b_Pl_becomeLike_0  (k1 := ?_)
  refine l_Pl_becomeLike_2 k FU _ _ _ _ l_a0 l_a1 h
noncomputable def f_X_image (κ : Ko) (a0 : Nat) (x1 : Int32) (st : AS) : Option (Int32 × AS) := if (wi ((x1 : Int32).toInt64) (0 : Int64) (3 : Int64)) = 0 then some (((-1) : Int32), st) else grd (vp_in x1 4) (bnd (gr st (a0 + 53) (x1 : Int32).toNatClampNeg) (fun c3 => grd (ly κ c3 = (5, 3)) (bnd (f_Pl_becomeLike κ c3 (a0 + 21) st) (fun s5 => some ((f_Pl_size κ (a0 + 21) s5), s5)))))
theorem t_X_image {κ : Ko} {F : Int32 → AS → Prop} {a0 : Nat} {x1 : Int32} {st : AS} {v : Int32} {s' : AS} (l_a0 : ly κ a0 = (11, 15)) (h : f_X_image κ a0 x1 st = some (v, s')) (k : F v s') : C κ M_X_image [.ref a0, .int x1] st (RI F) := by
  unfold f_X_image at h
  refine e_X_image ?_
  refine b_X_image_0  (k1 := t_X_within  rfl ?_)
  refine b_X_image_9  (k1 := fun e6 => ?_) (k2 := fun e6 => ?_)
  · replace h := if_f e6 h
    obtain ⟨h1, h⟩ := grd_some h
    obtain ⟨c3, h2, h⟩ := bnd_some h
    obtain ⟨l4, h⟩ := grd_some h
    obtain ⟨s5, h7, h⟩ := bnd_some h
    refine b_X_image_14 (l_a0 := l_a0) (b1 := h1) (g2 := h2) (l_r2 := l4) (k3 := t_Pl_becomeLike l4 (co11 21 5 3 rfl l_a0) h7 ?_)
    refine b_X_image_27 (l_a0 := l_a0) (k1 := t_Pl_size (co11 21 5 3 rfl l_a0) rfl ?_)
    exact b_X_image_34  (k1 := lfI h k)
  · replace h := if_t e6 h
    exact b_X_image_12  (k1 := lfI h k)
noncomputable def f_Pl_wasMade (κ : Ko) (a0 : Nat) (st : AS) : Option Int32 := grd ((gi st a0 2) = 0 ∨ (gi st a0 2) = 1) (some (gi st a0 2))
theorem t_Pl_wasMade {κ : Ko} {F : Int32 → AS → Prop} {a0 : Nat} {st : AS} {v : Int32} (l_a0 : ly κ a0 = (5, 3)) (h : f_Pl_wasMade κ a0 st = some v) (k : F v st) : C κ M_Pl_wasMade [.ref a0] st (RI F) := by
  unfold f_Pl_wasMade at h
  refine e_Pl_wasMade ?_
  obtain ⟨h1, h⟩ := grd_some h
  exact b_Pl_wasMade_0 (l_a0 := l_a0) (nz2 := h1) (k1 := lfIP h k)
noncomputable def f_X_back (κ : Ko) (a0 : Nat) (x1 : Int32) (st : AS) : Option (Int32 × AS) := jn (some (((-1) : Int32), st)) fun j11 => if (wi ((x1 : Int32).toInt64) (0 : Int64) (3 : Int64)) = 0 then j11 else grd (vp_in x1 4) (bnd (gr st (a0 + 53) (x1 : Int32).toNatClampNeg) (fun c3 => grd (ly κ c3 = (5, 3)) (bnd (f_Pl_wasMade κ c3 st) (fun v5 => if v5 = 0 then j11 else grd (vp_in x1 4) (bnd (gr st (a0 + 53) (x1 : Int32).toNatClampNeg) (fun c8 => grd (ly κ c8 = (5, 3)) (bnd (f_Pl_becomeLike κ (a0 + 21) c8 st) (fun s10 => some ((f_Pl_size κ (a0 + 21) s10), s10)))))))))
theorem t_X_back {κ : Ko} {F : Int32 → AS → Prop} {a0 : Nat} {x1 : Int32} {st : AS} {v : Int32} {s' : AS} (l_a0 : ly κ a0 = (11, 15)) (h : f_X_back κ a0 x1 st = some (v, s')) (k : F v s') : C κ M_X_back [.ref a0, .int x1] st (RI F) := by
  unfold f_X_back at h
  refine e_X_back ?_
  refine b_X_back_0  (k1 := t_X_within  rfl ?_)
  obtain ⟨j11, hdj11, h⟩ := jn_some h
  have hj11 : j11 = some (v, s') → V κ M_X_back (RI F) 24 [none, none] [] st := by
    intro h
    rw [hdj11] at h
    exact b_X_back_24  (k1 := lfI h k)
  clear hdj11
  refine b_X_back_9  (k1 := fun e12 => ?_) (k2 := fun e12 => ?_)
  · replace h := if_t e12 h
    exact hj11  h
  · replace h := if_f e12 h
    obtain ⟨h1, h⟩ := grd_some h
    obtain ⟨c3, h2, h⟩ := bnd_some h
    obtain ⟨l4, h⟩ := grd_some h
    obtain ⟨v5, h13, h⟩ := bnd_some h
    refine b_X_back_12 (l_a0 := l_a0) (b1 := h1) (g2 := h2) (l_r2 := l4) (k3 := t_Pl_wasMade l4 h13 ?_)
    refine b_X_back_21  (k1 := fun e14 => ?_) (k2 := fun e14 => ?_)
    · replace h := if_f e14 h
      obtain ⟨h6, h⟩ := grd_some h
      obtain ⟨c8, h7, h⟩ := bnd_some h
      obtain ⟨l9, h⟩ := grd_some h
      obtain ⟨s10, h15, h⟩ := bnd_some h
      refine b_X_back_26 (l_a0 := l_a0) (b1 := h6) (g2 := h7) (k3 := t_Pl_becomeLike (co11 21 5 3 rfl l_a0) l9 h15 ?_)
      refine b_X_back_39 (l_a0 := l_a0) (k1 := t_Pl_size (co11 21 5 3 rfl l_a0) rfl ?_)
      exact b_X_back_46  (k1 := lfI h k)
    · replace h := if_t e14 h
      exact hj11  h
