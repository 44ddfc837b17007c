/-! the final references, from here on, are where they are -/
def fixS (κ : Ko) (st : AS) : AS := (st.1, st.2.1, fun p j => match ft (lay (kt κ) p).1 j with
  | 0 => st.2.2 p j
  | 1 => st.2.2 p j
  | 2 => st.2.2 p j
  | d + 3 => some (p + d))
theorem ft_50 {c j : Nat} (h : 50 ≤ c) : ft c j = 0 := by
  unfold ft
  have e : ftL.getD c [] = [] := by
    rw [List.getD_eq_getElem?_getD, List.getElem?_eq_none (show ftL.length ≤ c from Nat.le_trans (by decide) h)]
    rfl
  rw [e]
  rfl
theorem fvl_turn {κ : Ko} {st st' : AS} {c q j : Nat} (hi : gi st' q j = gi st q j) (hl : gl st' q j = gl st q j) (hr : ft c j = 2 → gr st' q j = gr st q j) (hf : ∀ d, ft c j = d + 3 → gr st' q j = some (q + d)) : fvl (kf κ) st' c q j = fvl (kt κ) st c q j := by
  unfold fvl
  rcases hx : ft c j with _ | _ | _ | d
  · show Value.int _ = Value.int _
    rw [hi]
  · show Value.long _ = Value.long _
    rw [hl]
  · show va_rf _ = va_rf _
    rw [hr hx]
  · show va_rf (gr st' q j) = Value.ref (q + d)
    rw [hf d hx]
    rfl
theorem cellv_turn {κ : Ko} {st st' : AS} {q : Nat} (hi : ∀ j, gi st' q j = gi st q j) (hl : ∀ j, gl st' q j = gl st q j) (hr : ∀ j, ft (lay (kt κ) q).1 j = 2 → gr st' q j = gr st q j) (hf : (lay (kt κ) q).1 < 50 → ∀ j d, ft (lay (kt κ) q).1 j = d + 3 → gr st' q j = some (q + d)) (ha : 50 ≤ (lay (kt κ) q).1 → ∀ j, gr st' q j = gr st q j) : cellv (kf κ) st' q = cellv (kt κ) st q := by
  have hly : lay (kf κ) q = lay (kt κ) q := rfl
  have ei : gi st' q = gi st q := funext hi
  have el : gl st' q = gl st q := funext hl
  unfold cellv
  rw [hly]
  by_cases h : (lay (kt κ) q).1 < 50
  · rw [if_pos h, if_pos h]
    have e : fvl (kf κ) st' (lay (kt κ) q).1 q = fvl (kt κ) st (lay (kt κ) q).1 q := funext (fun j => fvl_turn (hi j) (hl j) (hr j) (hf h j))
    rw [e]
  · have er : gr st' q = gr st q := funext (ha (by omega))
    rw [if_neg h, if_neg h, ei, el, er]
    rfl
theorem wl_turn {κ : Ko} {st st' : AS} {d : Nat} (h : ∀ k, k < d → cellv (kf κ) st' (kB (kt κ) + k) = cellv (kt κ) st (kB (kt κ) + k)) : wl (kf κ) d st' = wl (kt κ) d st := by
  unfold wl
  apply List.map_congr_left
  intro k hk
  show (kB (kt κ) + k, cellv (kf κ) st' (kB (kt κ) + k)) = (kB (kt κ) + k, cellv (kt κ) st (kB (kt κ) + k))
  rw [h k (List.mem_range.mp hk)]
theorem wl_same {κ : Ko} {st : AS} (h : FSH κ st) : wl (kf κ) TOT st = wl (kt κ) TOT st := wl_turn fun k hk => cellv_turn (fun _ => rfl) (fun _ => rfl) (fun _ _ => rfl) (fun hc j d hx => by
  rw [h.r k j hk]
  exact RT_f (n := (lay (kt κ) (kB (kt κ) + k)).2) rfl hc hx rfl) (fun _ _ => rfl)
theorem wl_fix {κ : Ko} {st : AS} : wl (kf κ) TOT (fixS κ st) = wl (kt κ) TOT st := wl_turn fun k hk => cellv_turn (fun _ => rfl) (fun _ => rfl) (fun j hx => by
  unfold fixS gr
  simp only [hx]) (fun hc j d hx => by
  unfold fixS gr
  simp only [hx]) (fun hc j => by
  have hx := ft_50 (j := j) hc
  unfold fixS gr
  simp only [hx])
theorem VA.turn {κ : Ko} {M : Mth} {c sl pc : Nat} {lv : List (Option Value)} {stk : List Value} {st : AS} {q : Option Value → Prop} (hs : FSH κ st) (h : VA (kt κ) M TOT (fun v _ => q v) TOT c sl pc lv stk st) : VA (kf κ) M TOT (fun v _ => q v) TOT c sl pc lv stk st := by
  intro p e s m args below meth c0 H locs ls hc hz hP hS hl
  rw [wl_same hs] at hP
  have h1 := h p e s m args below meth c0 H locs ls hc hz hP hS hl
  intro T hT X
  obtain ⟨t, a, o, o1, o2, ⟨v, st2, z1, z2, z3, z4, z5⟩, o4⟩ := h1 T hT X
  exact ⟨t, a, o, o1, o2, ⟨v, fixS κ st2, z1, z2, by rw [wl_fix]; exact z3, z4, z5⟩, o4⟩
theorem slb11_at : ∀ i, i < 360 → slb11[i]? = some (layL.getD i (999, 0)) := by decide +kernel
theorem slb12_at : ∀ i, i < 24 → slb12[i]? = some (layL.getD (360 + i) (999, 0)) := by decide +kernel
theorem slb11_len : slb11.length = 360 := by decide +kernel
theorem slb12_len : slb12.length = 24 := by decide +kernel
theorem lw_va {κ : Ko} {nm : String} {q : Option Value → Prop} (hL : (kX (kt κ)).2.1 ≤ 3072) (hq : q (some (.int 1))) : VA (kf κ) (M_LW nm) TOT (fun v _ => q v) 0 0 0 0 [some (.ref (kX (kt κ)).1), none, none, none] [] Z0 := by
  have hF : Fresh (kf κ) 0 Z0 := fun p _ => ⟨rfl, rfl, rfl⟩
  have hl11 : ∀ i c n, slb11[i]? = some (c, n) → lay (kf κ) (kB (kf κ) + i) = (c, n) := fun i c n h => by
    have hi := (List.getElem?_eq_some_iff.mp h).1
    rw [slb11_len] at hi
    rw [slb11_at i hi] at h
    rw [lay_at]
    exact Option.some.inj h
  have hl12 : LY (kf κ) 360 slb12 := fun i c n h => by
    have hi := (List.getElem?_eq_some_iff.mp h).1
    rw [slb12_len] at hi
    rw [slb12_at i hi] at h
    rw [lay_at]
    exact Option.some.inj h
  refine cn_new (κ := kf κ) (M := M_LW nm) rfl ck11 tyd11 hF (show decode code 0 = .ok (.new 7, 3) from by decide +kernel) ⟨Tg_of (t1_1 21 rfl) rfl, Tg_of (t1_1 22 rfl) rfl, Tg_of (t1_1 1 rfl) rfl⟩ (hl11 0 11 15 rfl) (by decide) (show (0 : Nat) + 1 ≤ 600000 ∧ (0 : Nat) + 15 ≤ 7302250 from ⟨Nat.le_of_ble_eq_true rfl, Nat.le_of_ble_eq_true rfl⟩) (r_dup (show decode code 3 = .ok (.dup, 1) from by decide +kernel) rfl (ra_invI (show decode code 4 = .ok (.invokespecial 9, 3) from by decide +kernel) kl_L_9 (show (rmOf M_X_init).frames + 1 ≤ 2048 ∧ 8 + (mL M_X_init + 11) + (rmOf M_X_init).locals ≤ 84000 from ⟨Nat.le_of_ble_eq_true rfl, Nat.le_of_ble_eq_true rfl⟩) (As := []) (rest := [.ref (kB (kf κ))]) rfl rfl (Nat.le_of_ble_eq_true rfl) (by omega) (show (1 : Nat) + (rmOf M_X_init).cells ≤ 600000 ∧ (15 : Nat) + (rmOf M_X_init).slots ≤ 7302250 from ⟨Nat.le_of_ble_eq_true rfl, Nat.le_of_ble_eq_true rfl⟩) (d2 := 360) (Q' := fun v st' => v = none ∧ CP (kf κ) 0 360 Z0 st') (c_X rfl hl11 hF (fun _ h => ⟨rfl, h⟩)) (fun v st1 hh => ?_)))
  obtain ⟨rfl, h1⟩ := hh
  show VA (kf κ) (M_LW nm) _ _ 360 360 170935 7 _ [.ref (kB (kf κ))] st1
  refine r_astore_n (i := 1) (show decode code 7 = .ok (.astore_n 1, 1) from by decide +kernel) rfl (Nat.le_of_ble_eq_true rfl) (cn_new rfl ck12 tyd12 h1.2.2.2.2 (show decode code 8 = .ok (.new 10, 3) from by decide +kernel) ⟨Tg_of (t1_6 79 rfl) rfl, Tg_of (t1_6 80 rfl) rfl, Tg_of (t1_1 13 rfl) rfl⟩ (hl12 0 12 36 rfl) (by decide) (show (360 : Nat) + 1 ≤ 600000 ∧ (170935 : Nat) + 36 ≤ 7302250 from ⟨Nat.le_of_ble_eq_true rfl, Nat.le_of_ble_eq_true rfl⟩) (r_dup (show decode code 11 = .ok (.dup, 1) from by decide +kernel) rfl (ra_invI (show decode code 12 = .ok (.invokespecial 12, 3) from by decide +kernel) kl_L_12 (show (rmOf M_R_init).frames + 1 ≤ 2048 ∧ 8 + (mL M_R_init + 11) + (rmOf M_R_init).locals ≤ 84000 from ⟨Nat.le_of_ble_eq_true rfl, Nat.le_of_ble_eq_true rfl⟩) (As := []) (rest := [.ref (kB (kf κ) + 360)]) rfl rfl (Nat.le_of_ble_eq_true rfl) (by omega) (show (361 : Nat) + (rmOf M_R_init).cells ≤ 600000 ∧ (170971 : Nat) + (rmOf M_R_init).slots ≤ 7302250 from ⟨Nat.le_of_ble_eq_true rfl, Nat.le_of_ble_eq_true rfl⟩) (d2 := 384) (Q' := fun v st' => v = none ∧ CP (kf κ) 360 24 st1 st') (c_R rfl hl12 h1.2.2.2.2 (fun _ h => ⟨rfl, h⟩)) (fun v st2 hh => ?_))))
  obtain ⟨rfl, h2⟩ := hh
  show VA (kf κ) (M_LW nm) _ _ 384 384 335751 15 _ [.ref (kB (kf κ) + 360)] st2
  refine r_astore_n (i := 2) (show decode code 15 = .ok (.astore_n 2, 1) from by decide +kernel) rfl (Nat.le_of_ble_eq_true rfl) (r_iconst (v := 0) (show decode code 16 = .ok (.iconst 0, 1) from by decide +kernel) (by decide) (r_istore_n (i := 3) (show decode code 17 = .ok (.istore_n 3, 1) from by decide +kernel) rfl (Nat.le_of_ble_eq_true rfl) ?_))
  have hs : FSH κ st2 := FSH.of h1 h2
  refine VA.turn hs ?_
  show LV κ nm _ 18 0 [] st2
  exact lw_loop hL (fun _ => hq) (kX (kt κ)).2.1 0 st2 (by omega) (by omega) (fun _ => rfl) (fs_GR hs)
