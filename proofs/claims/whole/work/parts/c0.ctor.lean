/-! constructors: rows -/
theorem fvl_new {κ : Kp} {st : AS} {c q j : Nat} (hkF : kF κ = false) (h : gi st q = (fun _ => 0) ∧ gl st q = (fun _ => 0) ∧ gr st q = (fun _ => none)) : fvl κ st c q j = (match ft c j with | 0 => .int 0 | 1 => .long 0 | _ => .null) := by
  unfold fvl
  rw [h.1, h.2.1, h.2.2]
  rcases hft : ft c j with _ | _ | _ | d
  · rfl
  · rfl
  · rfl
  · simp only [hkF]; rfl
section CtorRows
variable {κ : Kp} {M : Mth} {d' d c sl pc ix n : Nat} {Q : Option Value → AS → Prop} {lv : List (Option Value)} {rest : List Value} {st : AS}
theorem cn_new {ci : Nat} {Cn : String} {Tt : u_T} {ty : Nat → FieldType} (hkF : kF κ = false) (hC : ClsOK ci n Cn Tt ty) (hty : ∀ j, j < n → defaultValue (ty j) = (match ft ci j with | 0 => .int 0 | 1 => .long 0 | _ => .null)) (hFr : Fresh κ d st) (hd : decode (mC M) pc = .ok (.new ix, 3)) (hw : Cond.classLink (mY M).cls ix Cn ∈ Tg ∧ Cond.instantiable Cn n ∈ Tg ∧ Cond.initialized Cn ∈ Tg) (hl : lay κ (kB κ + d) = (ci, n)) (hc : ci < 50) (hf : c + 1 ≤ (rmOf M).cells ∧ sl + n ≤ (rmOf M).slots) (k : VA κ M d' Q (d + 1) (c + 1) (sl + n) (pc + 3) lv (.ref (kB κ + d) :: rest) st) : VA κ M d' Q d c sl pc lv rest st :=
  ra_new hC hd hw hl hc (fun j hj => (hty j hj).trans (fvl_new hkF (hFr _ (Nat.le_refl _))).symm) hf k
theorem cn_arr {ak : Nat} {at_ : ArrayType} {x : Int32} (hFr : Fresh κ d st) (hd : decode (mC M) pc = .ok (.newarray at_, 2)) (ht : (tyl κ)[ak]? = some (kA κ (ak + 50), newarray.typeOf at_)) (hw : Cond.arrayClass (newarray.typeOf at_) ∈ Tg) (hl : lay κ (kB κ + d) = (ak + 50, n)) (hx0 : ¬ x < 0) (hxn : x.toNatClampNeg = n) (hby : n * componentBytes (newarray.typeOf at_) ≤ 536870912) (hak : ak < 4) (hdv : defaultValue (newarray.typeOf at_) = if ak = 1 then .long 0 else .int 0) (hf : c + 1 ≤ (rmOf M).cells ∧ sl + n ≤ (rmOf M).slots) (k : VA κ M d' Q (d + 1) (c + 1) (sl + n) (pc + 2) lv (.ref (kB κ + d) :: rest) st) : VA κ M d' Q d c sl pc lv (.int x :: rest) st := by
  refine ra_newa hd ht hw hl hx0 hxn hby ?_ hf k
  obtain ⟨f1, f2, -⟩ := hFr (kB κ + d) (Nat.le_refl _)
  rw [hdv]
  unfold cellv
  rw [hl, if_neg (show ¬ ak + 50 < 50 by omega), f1, f2]
  by_cases e : ak = 1
  · rw [if_pos e]
    subst e
    rfl
  · rw [if_neg e]
    have h1 : ¬ ak + 50 = 51 := by omega
    have h2 : ak + 50 < 54 := by omega
    simp only [if_neg h1, if_pos h2]
    rfl
theorem cp_put {ci j r q : Nat} {Cn : String} {Tt : u_T} {ty : Nat → FieldType} (hkF : kF κ = false) (hC : ClsOK ci n Cn Tt ty) (hd : decode (mC M) pc = .ok (.putfield ix, 3)) (hD : kB κ ≤ q ∧ q < kB κ + d) (hl : lay κ q = (ci, n)) (hc : ci < 50) (hj : j < n) (hw : Cond.fieldLink (mY M).cls ix (Tt j).1 (Tt j).2.1 (Tt j).2.2.1 ∈ Tg) (hk : 2 ≤ ft ci j) (hin : (mY M).name = "<init>") (hdc : (Tt j).1 = (mY M).cls) (hn : narrow (ty j) (.ref r) = .ref r) (hfit : fits (ty j) (.ref r) = true) (k : VA κ M d' Q d c sl (pc + 3) lv rest (ur st q j (some r))) : VA κ M d' Q d c sl pc lv (.ref r :: .ref q :: rest) st := by
  have hs : ft ci j = 2 ∨ (2 < ft ci j ∧ kF κ = false) := by
    by_cases e : ft ci j = 2
    · exact Or.inl e
    · exact Or.inr ⟨by omega, hkF⟩
  by_cases hf : (Tt j).2.2.2 = true
  · exact ra_putF hC hd hD hl hc hj hw hf hin hdc hn hfit cellv_ur (fvl_set_r hs) k
  · exact ra_put hC hd hD hl hc hj hw (by revert hf; cases (Tt j).2.2.2 <;> simp) hn hfit cellv_ur (fvl_set_r hs) k
end CtorRows
/-- where each reference points, in the end -/
def RT (κ : Kp) (p j : Nat) : Option Nat :=
  if (lay κ p).1 < 50 then (match ft (lay κ p).1 j with
    | 0 => none
    | 1 => none
    | 2 => if (lay κ p).1 = 8 then some (kB κ + 12) else if (lay κ p).1 = 9 then some (kB κ + 54) else if j = 0 then some (kB κ + 1) else if j = 5 then some (kB κ + 3) else some (kK κ 0)
    | d + 3 => some (p + d))
  else if (lay κ p).1 < 54 then none
  else if (lay κ p).1 = 54 then (if j < 6 then some (kB κ + (70 + 27 * j)) else none)
  else if (lay κ p).1 = 55 then (if j < 6 then some (kB κ + (79 + 27 * j)) else none)
  else if (lay κ p).1 = 56 then (if j < 6 then some (kB κ + (84 + 27 * j)) else none)
  else if (lay κ p).1 = 57 then (if j < 6 then some (kB κ + (92 + 27 * j)) else none)
  else if (lay κ p).1 = 58 then (if j < 4 then some (kB κ + (232 + 32 * j)) else none)
  else (if j < 6 then some (p + (1 + 5 * j)) else none)
/-- what a constructor leaves -/
def CP (κ : Kp) (d0 len : Nat) (st st' : AS) : Prop := (∀ p, kB κ + d0 ≤ p → p < kB κ + (d0 + len) → ∀ j, gr st' p j = RT κ p j) ∧ (∀ p, p < kB κ + d0 → ∀ j, gr st' p j = gr st p j) ∧ (∀ p j, gi st' p j = gi st p j) ∧ (∀ p j, gl st' p j = gl st p j) ∧ Fresh κ (d0 + len) st'
def LY (κ : Kp) (d0 : Nat) (l : List (Nat × Nat)) : Prop := ∀ i c n, l[i]? = some (c, n) → lay κ (kB κ + (d0 + i)) = (c, n)

theorem tyd0 : ∀ j, j < 4 → defaultValue (tyX0 j) = (match ft 0 j with | 0 => .int 0 | 1 => .long 0 | _ => .null) := fun j hj => by
  have hc : j = 0 ∨ j = 1 ∨ j = 2 ∨ j = 3 := by omega
  rcases hc with rfl | rfl | rfl | rfl <;> rfl
theorem tyd1 : ∀ j, j < 4 → defaultValue (tyX1 j) = (match ft 1 j with | 0 => .int 0 | 1 => .long 0 | _ => .null) := fun j hj => by
  have hc : j = 0 ∨ j = 1 ∨ j = 2 ∨ j = 3 := by omega
  rcases hc with rfl | rfl | rfl | rfl <;> rfl
theorem tyd2 : ∀ j, j < 5 → defaultValue (tyX2 j) = (match ft 2 j with | 0 => .int 0 | 1 => .long 0 | _ => .null) := fun j hj => by
  have hc : j = 0 ∨ j = 1 ∨ j = 2 ∨ j = 3 ∨ j = 4 := by omega
  rcases hc with rfl | rfl | rfl | rfl | rfl <;> rfl
theorem tyd3 : ∀ j, j < 7 → defaultValue (tyX3 j) = (match ft 3 j with | 0 => .int 0 | 1 => .long 0 | _ => .null) := fun j hj => by
  have hc : j = 0 ∨ j = 1 ∨ j = 2 ∨ j = 3 ∨ j = 4 ∨ j = 5 ∨ j = 6 := by omega
  rcases hc with rfl | rfl | rfl | rfl | rfl | rfl | rfl <;> rfl
theorem tyd4 : ∀ j, j < 5 → defaultValue (tyX4 j) = (match ft 4 j with | 0 => .int 0 | 1 => .long 0 | _ => .null) := fun j hj => by
  have hc : j = 0 ∨ j = 1 ∨ j = 2 ∨ j = 3 ∨ j = 4 := by omega
  rcases hc with rfl | rfl | rfl | rfl | rfl <;> rfl
theorem tyd5 : ∀ j, j < 3 → defaultValue (tyX5 j) = (match ft 5 j with | 0 => .int 0 | 1 => .long 0 | _ => .null) := fun j hj => by
  have hc : j = 0 ∨ j = 1 ∨ j = 2 := by omega
  rcases hc with rfl | rfl | rfl <;> rfl
theorem tyd6 : ∀ j, j < 7 → defaultValue (tyX6 j) = (match ft 6 j with | 0 => .int 0 | 1 => .long 0 | _ => .null) := fun j hj => by
  have hc : j = 0 ∨ j = 1 ∨ j = 2 ∨ j = 3 ∨ j = 4 ∨ j = 5 ∨ j = 6 := by omega
  rcases hc with rfl | rfl | rfl | rfl | rfl | rfl | rfl <;> rfl
theorem tyd7 : ∀ j, j < 5 → defaultValue (tyX7 j) = (match ft 7 j with | 0 => .int 0 | 1 => .long 0 | _ => .null) := fun j hj => by
  have hc : j = 0 ∨ j = 1 ∨ j = 2 ∨ j = 3 ∨ j = 4 := by omega
  rcases hc with rfl | rfl | rfl | rfl | rfl <;> rfl
theorem tyd8 : ∀ j, j < 14 → defaultValue (tyX8 j) = (match ft 8 j with | 0 => .int 0 | 1 => .long 0 | _ => .null) := fun j hj => by
  have hc : j = 0 ∨ j = 1 ∨ j = 2 ∨ j = 3 ∨ j = 4 ∨ j = 5 ∨ j = 6 ∨ j = 7 ∨ j = 8 ∨ j = 9 ∨ j = 10 ∨ j = 11 ∨ j = 12 ∨ j = 13 := by omega
  rcases hc with rfl | rfl | rfl | rfl | rfl | rfl | rfl | rfl | rfl | rfl | rfl | rfl | rfl | rfl <;> rfl
theorem tyd9 : ∀ j, j < 4 → defaultValue (tyX9 j) = (match ft 9 j with | 0 => .int 0 | 1 => .long 0 | _ => .null) := fun j hj => by
  have hc : j = 0 ∨ j = 1 ∨ j = 2 ∨ j = 3 := by omega
  rcases hc with rfl | rfl | rfl | rfl <;> rfl
theorem tyd10 : ∀ j, j < 7 → defaultValue (tyX10 j) = (match ft 10 j with | 0 => .int 0 | 1 => .long 0 | _ => .null) := fun j hj => by
  have hc : j = 0 ∨ j = 1 ∨ j = 2 ∨ j = 3 ∨ j = 4 ∨ j = 5 ∨ j = 6 := by omega
  rcases hc with rfl | rfl | rfl | rfl | rfl | rfl | rfl <;> rfl
theorem tyd11 : ∀ j, j < 15 → defaultValue (tyX11 j) = (match ft 11 j with | 0 => .int 0 | 1 => .long 0 | _ => .null) := fun j hj => by
  have hc : j = 0 ∨ j = 1 ∨ j = 2 ∨ j = 3 ∨ j = 4 ∨ j = 5 ∨ j = 6 ∨ j = 7 ∨ j = 8 ∨ j = 9 ∨ j = 10 ∨ j = 11 ∨ j = 12 ∨ j = 13 ∨ j = 14 := by omega
  rcases hc with rfl | rfl | rfl | rfl | rfl | rfl | rfl | rfl | rfl | rfl | rfl | rfl | rfl | rfl | rfl <;> rfl
theorem tyd12 : ∀ j, j < 36 → defaultValue (tyX12 j) = (match ft 12 j with | 0 => .int 0 | 1 => .long 0 | _ => .null) := fun j hj => by
  have hc : j = 0 ∨ j = 1 ∨ j = 2 ∨ j = 3 ∨ j = 4 ∨ j = 5 ∨ j = 6 ∨ j = 7 ∨ j = 8 ∨ j = 9 ∨ j = 10 ∨ j = 11 ∨ j = 12 ∨ j = 13 ∨ j = 14 ∨ j = 15 ∨ j = 16 ∨ j = 17 ∨ j = 18 ∨ j = 19 ∨ j = 20 ∨ j = 21 ∨ j = 22 ∨ j = 23 ∨ j = 24 ∨ j = 25 ∨ j = 26 ∨ j = 27 ∨ j = 28 ∨ j = 29 ∨ j = 30 ∨ j = 31 ∨ j = 32 ∨ j = 33 ∨ j = 34 ∨ j = 35 := by omega
  rcases hc with rfl | rfl | rfl | rfl | rfl | rfl | rfl | rfl | rfl | rfl | rfl | rfl | rfl | rfl | rfl | rfl | rfl | rfl | rfl | rfl | rfl | rfl | rfl | rfl | rfl | rfl | rfl | rfl | rfl | rfl | rfl | rfl | rfl | rfl | rfl | rfl <;> rfl
theorem c_Cd {κ : Kp} {d0 : Nat} {st : AS} {Q : Option Value → AS → Prop} (hkF : kF κ = false) (hl : LY κ d0 slb0) (hFr : Fresh κ d0 st) (k : ∀ st', CP κ d0 4 st st' → Q none st') : CA κ M_Cd_init (d0 + 1) (d0 + 4) [.ref (kB κ + d0)] st Q := by
  have hl0 := hl 0 0 4 rfl
  have f0 : ∀ {e : Nat}, d0 + 1 ≤ e → Fresh κ e st := fun he => by
    have h := hFr.up (d2 := _) (show d0 ≤ _ from Nat.le_of_succ_le he)
    exact h
  have f1 : ∀ {e : Nat}, d0 + 1 ≤ e → Fresh κ e (ur st (kB κ + d0) 0 (some (kB κ + (d0 + 1)))) := fun he => by
    have h := hFr.up (d2 := _) (show d0 ≤ _ from Nat.le_of_succ_le he)
    exact Fresh.ur (h) (by omega)
  have f2 : ∀ {e : Nat}, d0 + 1 ≤ e → Fresh κ e (ur (ur st (kB κ + d0) 0 (some (kB κ + (d0 + 1)))) (kB κ + d0) 1 (some (kB κ + (d0 + 2)))) := fun he => by
    have h := hFr.up (d2 := _) (show d0 ≤ _ from Nat.le_of_succ_le he)
    exact Fresh.ur (Fresh.ur (h) (by omega)) (by omega)
  refine CA_of (lv := [some (.ref (kB κ + d0))]) (show plainName "CrumpledSheet$Code" = true by decide) (Nat.le_of_ble_eq_true rfl) (And.intro rfl trivial) (r_aload_n (i := 0) (show decode prog_2_method_1_code 0 = .ok (.aload_n 0, 1) from by decide +kernel) rfl rfl (ra_objInit (show decode prog_2_method_1_code 1 = .ok (.invokespecial 3, 3) from by decide +kernel) (Tg_of (t1_1 40 rfl) rfl) (Nat.le_of_ble_eq_true rfl) (Nat.le_of_ble_eq_true rfl) ⟨(Tg_of (t1_1 27 rfl) rfl), (Tg_of (t1_1 28 rfl) rfl)⟩ (r_aload_n (i := 0) (show decode prog_2_method_1_code 4 = .ok (.aload_n 0, 1) from by decide +kernel) rfl rfl (r_sipush (v := 400) (show decode prog_2_method_1_code 5 = .ok (.sipush 400, 3) from by decide +kernel) (by decide) (cn_arr (ak := 0) (f0 (by omega)) (show decode prog_2_method_1_code 8 = .ok (.newarray .int, 2) from by decide +kernel) rfl (Tg_of (t1_1 54 rfl) rfl) (hl 1 50 400 rfl) (by decide) (by decide) (by decide) (by decide) rfl ⟨Nat.le_of_ble_eq_true rfl, Nat.le_of_ble_eq_true rfl⟩ (cp_put hkF ck0 (show decode prog_2_method_1_code 10 = .ok (.putfield 9, 3) from by decide +kernel) ⟨by omega, by omega⟩ (hl 0 0 4 rfl) (by decide) (j := 0) (by decide) (Tg_of (t1_1 41 rfl) rfl) (by decide) rfl rfl rfl rfl (r_aload_n (i := 0) (show decode prog_2_method_1_code 13 = .ok (.aload_n 0, 1) from by decide +kernel) rfl rfl (r_sipush (v := 400) (show decode prog_2_method_1_code 14 = .ok (.sipush 400, 3) from by decide +kernel) (by decide) (cn_arr (ak := 0) (f1 (by omega)) (show decode prog_2_method_1_code 17 = .ok (.newarray .int, 2) from by decide +kernel) rfl (Tg_of (t1_1 54 rfl) rfl) (hl 2 50 400 rfl) (by decide) (by decide) (by decide) (by decide) rfl ⟨Nat.le_of_ble_eq_true rfl, Nat.le_of_ble_eq_true rfl⟩ (cp_put hkF ck0 (show decode prog_2_method_1_code 19 = .ok (.putfield 15, 3) from by decide +kernel) ⟨by omega, by omega⟩ (hl 0 0 4 rfl) (by decide) (j := 1) (by decide) (Tg_of (t1_1 42 rfl) rfl) (by decide) rfl rfl rfl rfl (r_aload_n (i := 0) (show decode prog_2_method_1_code 22 = .ok (.aload_n 0, 1) from by decide +kernel) rfl rfl (r_bipush (v := 64) (show decode prog_2_method_1_code 23 = .ok (.bipush 64, 2) from by decide +kernel) (by decide) (cn_arr (ak := 1) (f2 (by omega)) (show decode prog_2_method_1_code 25 = .ok (.newarray .long, 2) from by decide +kernel) rfl (Tg_of (t1_1 55 rfl) rfl) (hl 3 51 64 rfl) (by decide) (by decide) (by decide) (by decide) rfl ⟨Nat.le_of_ble_eq_true rfl, Nat.le_of_ble_eq_true rfl⟩ (cp_put hkF ck0 (show decode prog_2_method_1_code 27 = .ok (.putfield 18, 3) from by decide +kernel) ⟨by omega, by omega⟩ (hl 0 0 4 rfl) (by decide) (j := 2) (by decide) (Tg_of (t1_1 43 rfl) rfl) (by decide) rfl rfl rfl rfl (r_vreturn (show decode prog_2_method_1_code 30 = .ok (.return_, 1) from by decide +kernel) rfl (Nat.le_of_ble_eq_true rfl) (Nat.le_of_ble_eq_true rfl) (k _ ?_))))))))))))))))
  refine ⟨fun p h1 h2 j => ?_, fun p h1 j => ?_, fun _ _ => rfl, fun _ _ => rfl, fun p hp => ?_⟩
  · obtain ⟨i, rfl⟩ : ∃ i, p = kB κ + (d0 + i) := ⟨p - kB κ - d0, by omega⟩
    have hn : ∀ p, kB κ + d0 ≤ p → gr st p = fun _ => none := fun p hp => (hFr p hp).2.2
    have hc : i = 0 ∨ i = 1 ∨ i = 2 ∨ i = 3 := by omega
    rcases hc with rfl | rfl | rfl | rfl
    · unfold RT
      rw [show lay κ (kB κ + (d0 + 0)) = (0, 4) from hl0]
      show gr _ (kB κ + d0) j = _
      rw [gr_ur, gr_ur, gr_ur, hn _ (Nat.le_refl _)]
      by_cases hj : j < 4
      · have hcj : j = 0 ∨ j = 1 ∨ j = 2 ∨ j = 3 := by omega
        rcases hcj with rfl | rfl | rfl | rfl
        · rw [if_neg (by omega), if_neg (by omega), if_pos ⟨rfl, rfl⟩]
          show some _ = some (kB κ + (d0 + 0) + 1)
          congr 1
        · rw [if_neg (by omega), if_pos ⟨rfl, rfl⟩]
          show some _ = some (kB κ + (d0 + 0) + 2)
          congr 1
        · rw [if_pos ⟨rfl, rfl⟩]
          show some _ = some (kB κ + (d0 + 0) + 3)
          congr 1
        · rw [if_neg (by omega), if_neg (by omega), if_neg (by omega)]
          rfl
      · rw [if_neg (by omega), if_neg (by omega), if_neg (by omega)]
        have hft : ft 0 j = 0 := by
          unfold ft
          rw [show ftL.getD 0 [] = [4, 5, 6, 0] from rfl, List.getD_eq_getElem?_getD, List.getElem?_eq_none (by show 4 ≤ j; omega)]
          rfl
        show none = if (0 : Nat) < 50 then _ else _
        rw [if_pos (by decide)]
        show none = (match ft 0 j with | 0 => _ | 1 => _ | 2 => _ | d + 3 => _)
        rw [hft]
    · rw [gr_ur, if_neg (by omega), gr_ur, if_neg (by omega), gr_ur, if_neg (by omega)]
      rw [hn _ (by omega)]
      unfold RT
      rw [hl 1 50 400 rfl]
      rfl
    · rw [gr_ur, if_neg (by omega), gr_ur, if_neg (by omega), gr_ur, if_neg (by omega)]
      rw [hn _ (by omega)]
      unfold RT
      rw [hl 2 50 400 rfl]
      rfl
    · rw [gr_ur, if_neg (by omega), gr_ur, if_neg (by omega), gr_ur, if_neg (by omega)]
      rw [hn _ (by omega)]
      unfold RT
      rw [hl 3 51 64 rfl]
      rfl
  · rw [gr_ur, if_neg (by omega), gr_ur, if_neg (by omega), gr_ur, if_neg (by omega)]
  · exact (Fresh.ur (Fresh.ur (Fresh.ur (hFr.up (d2 := d0 + 4) (by omega)) (by omega)) (by omega)) (by omega)) p hp
theorem c_Cn {κ : Kp} {d0 : Nat} {st : AS} {Q : Option Value → AS → Prop} (hkF : kF κ = false) (hl : LY κ d0 slb1) (hFr : Fresh κ d0 st) (k : ∀ st', CP κ d0 3 st st' → Q none st') : CA κ M_Cn_init (d0 + 1) (d0 + 3) [.ref (kB κ + d0)] st Q := by
  have hl0 := hl 0 1 4 rfl
  have f0 : ∀ {e : Nat}, d0 + 1 ≤ e → Fresh κ e st := fun he => by
    have h := hFr.up (d2 := _) (show d0 ≤ _ from Nat.le_of_succ_le he)
    exact h
  have f1 : ∀ {e : Nat}, d0 + 1 ≤ e → Fresh κ e (ur st (kB κ + d0) 0 (some (kB κ + (d0 + 1)))) := fun he => by
    have h := hFr.up (d2 := _) (show d0 ≤ _ from Nat.le_of_succ_le he)
    exact Fresh.ur (h) (by omega)
  refine CA_of (lv := [some (.ref (kB κ + d0))]) (show plainName "CrumpledSheet$Corners" = true by decide) (Nat.le_of_ble_eq_true rfl) (And.intro rfl trivial) (r_aload_n (i := 0) (show decode prog_3_method_1_code 0 = .ok (.aload_n 0, 1) from by decide +kernel) rfl rfl (ra_objInit (show decode prog_3_method_1_code 1 = .ok (.invokespecial 3, 3) from by decide +kernel) (Tg_of (t1_1 210 rfl) rfl) (Nat.le_of_ble_eq_true rfl) (Nat.le_of_ble_eq_true rfl) ⟨(Tg_of (t1_1 27 rfl) rfl), (Tg_of (t1_1 28 rfl) rfl)⟩ (r_aload_n (i := 0) (show decode prog_3_method_1_code 4 = .ok (.aload_n 0, 1) from by decide +kernel) rfl rfl (r_ldc (show decode prog_3_method_1_code 5 = .ok (.ldc 11, 2) from by decide +kernel) kc_Cn_11 (cn_arr (ak := 0) (f0 (by omega)) (show decode prog_3_method_1_code 7 = .ok (.newarray .int, 2) from by decide +kernel) rfl (Tg_of (t1_1 54 rfl) rfl) (hl 1 50 40401 rfl) (by decide) (by decide) (by decide) (by decide) rfl ⟨Nat.le_of_ble_eq_true rfl, Nat.le_of_ble_eq_true rfl⟩ (cp_put hkF ck1 (show decode prog_3_method_1_code 9 = .ok (.putfield 12, 3) from by decide +kernel) ⟨by omega, by omega⟩ (hl 0 1 4 rfl) (by decide) (j := 0) (by decide) (Tg_of (t1_1 212 rfl) rfl) (by decide) rfl rfl rfl rfl (r_aload_n (i := 0) (show decode prog_3_method_1_code 12 = .ok (.aload_n 0, 1) from by decide +kernel) rfl rfl (r_iconst (v := 5) (show decode prog_3_method_1_code 13 = .ok (.iconst 5, 1) from by decide +kernel) (by decide) (cn_arr (ak := 0) (f1 (by omega)) (show decode prog_3_method_1_code 14 = .ok (.newarray .int, 2) from by decide +kernel) rfl (Tg_of (t1_1 54 rfl) rfl) (hl 2 50 5 rfl) (by decide) (by decide) (by decide) (by decide) rfl ⟨Nat.le_of_ble_eq_true rfl, Nat.le_of_ble_eq_true rfl⟩ (cp_put hkF ck1 (show decode prog_3_method_1_code 16 = .ok (.putfield 16, 3) from by decide +kernel) ⟨by omega, by omega⟩ (hl 0 1 4 rfl) (by decide) (j := 1) (by decide) (Tg_of (t1_1 213 rfl) rfl) (by decide) rfl rfl rfl rfl (r_vreturn (show decode prog_3_method_1_code 19 = .ok (.return_, 1) from by decide +kernel) rfl (Nat.le_of_ble_eq_true rfl) (Nat.le_of_ble_eq_true rfl) (k _ ?_))))))))))))
  refine ⟨fun p h1 h2 j => ?_, fun p h1 j => ?_, fun _ _ => rfl, fun _ _ => rfl, fun p hp => ?_⟩
  · obtain ⟨i, rfl⟩ : ∃ i, p = kB κ + (d0 + i) := ⟨p - kB κ - d0, by omega⟩
    have hn : ∀ p, kB κ + d0 ≤ p → gr st p = fun _ => none := fun p hp => (hFr p hp).2.2
    have hc : i = 0 ∨ i = 1 ∨ i = 2 := by omega
    rcases hc with rfl | rfl | rfl
    · unfold RT
      rw [show lay κ (kB κ + (d0 + 0)) = (1, 4) from hl0]
      show gr _ (kB κ + d0) j = _
      rw [gr_ur, gr_ur, hn _ (Nat.le_refl _)]
      by_cases hj : j < 4
      · have hcj : j = 0 ∨ j = 1 ∨ j = 2 ∨ j = 3 := by omega
        rcases hcj with rfl | rfl | rfl | rfl
        · rw [if_neg (by omega), if_pos ⟨rfl, rfl⟩]
          show some _ = some (kB κ + (d0 + 0) + 1)
          congr 1
        · rw [if_pos ⟨rfl, rfl⟩]
          show some _ = some (kB κ + (d0 + 0) + 2)
          congr 1
        · rw [if_neg (by omega), if_neg (by omega)]
          rfl
        · rw [if_neg (by omega), if_neg (by omega)]
          rfl
      · rw [if_neg (by omega), if_neg (by omega)]
        have hft : ft 1 j = 0 := by
          unfold ft
          rw [show ftL.getD 1 [] = [4, 5, 0, 0] from rfl, List.getD_eq_getElem?_getD, List.getElem?_eq_none (by show 4 ≤ j; omega)]
          rfl
        show none = if (1 : Nat) < 50 then _ else _
        rw [if_pos (by decide)]
        show none = (match ft 1 j with | 0 => _ | 1 => _ | 2 => _ | d + 3 => _)
        rw [hft]
    · rw [gr_ur, if_neg (by omega), gr_ur, if_neg (by omega)]
      rw [hn _ (by omega)]
      unfold RT
      rw [hl 1 50 40401 rfl]
      rfl
    · rw [gr_ur, if_neg (by omega), gr_ur, if_neg (by omega)]
      rw [hn _ (by omega)]
      unfold RT
      rw [hl 2 50 5 rfl]
      rfl
  · rw [gr_ur, if_neg (by omega), gr_ur, if_neg (by omega)]
  · exact (Fresh.ur (Fresh.ur (hFr.up (d2 := d0 + 3) (by omega)) (by omega)) (by omega)) p hp
theorem c_Dg {κ : Kp} {d0 : Nat} {st : AS} {Q : Option Value → AS → Prop} (hkF : kF κ = false) (hl : LY κ d0 slb2) (hFr : Fresh κ d0 st) (k : ∀ st', CP κ d0 5 st st' → Q none st') : CA κ M_Dg_init (d0 + 1) (d0 + 5) [.ref (kB κ + d0)] st Q := by
  have hl0 := hl 0 2 5 rfl
  have f0 : ∀ {e : Nat}, d0 + 1 ≤ e → Fresh κ e st := fun he => by
    have h := hFr.up (d2 := _) (show d0 ≤ _ from Nat.le_of_succ_le he)
    exact h
  have f1 : ∀ {e : Nat}, d0 + 1 ≤ e → Fresh κ e (ur st (kB κ + d0) 0 (some (kB κ + (d0 + 1)))) := fun he => by
    have h := hFr.up (d2 := _) (show d0 ≤ _ from Nat.le_of_succ_le he)
    exact Fresh.ur (h) (by omega)
  have f2 : ∀ {e : Nat}, d0 + 1 ≤ e → Fresh κ e (ur (ur st (kB κ + d0) 0 (some (kB κ + (d0 + 1)))) (kB κ + d0) 1 (some (kB κ + (d0 + 2)))) := fun he => by
    have h := hFr.up (d2 := _) (show d0 ≤ _ from Nat.le_of_succ_le he)
    exact Fresh.ur (Fresh.ur (h) (by omega)) (by omega)
  have f3 : ∀ {e : Nat}, d0 + 1 ≤ e → Fresh κ e (ur (ur (ur st (kB κ + d0) 0 (some (kB κ + (d0 + 1)))) (kB κ + d0) 1 (some (kB κ + (d0 + 2)))) (kB κ + d0) 2 (some (kB κ + (d0 + 3)))) := fun he => by
    have h := hFr.up (d2 := _) (show d0 ≤ _ from Nat.le_of_succ_le he)
    exact Fresh.ur (Fresh.ur (Fresh.ur (h) (by omega)) (by omega)) (by omega)
  refine CA_of (lv := [some (.ref (kB κ + d0))]) (show plainName "CrumpledSheet$Doing" = true by decide) (Nat.le_of_ble_eq_true rfl) (And.intro rfl trivial) (r_aload_n (i := 0) (show decode prog_4_method_1_code 0 = .ok (.aload_n 0, 1) from by decide +kernel) rfl rfl (ra_objInit (show decode prog_4_method_1_code 1 = .ok (.invokespecial 3, 3) from by decide +kernel) (Tg_of (t1_2 11 rfl) rfl) (Nat.le_of_ble_eq_true rfl) (Nat.le_of_ble_eq_true rfl) ⟨(Tg_of (t1_1 27 rfl) rfl), (Tg_of (t1_1 28 rfl) rfl)⟩ (r_aload_n (i := 0) (show decode prog_4_method_1_code 4 = .ok (.aload_n 0, 1) from by decide +kernel) rfl rfl (r_bipush (v := 12) (show decode prog_4_method_1_code 5 = .ok (.bipush 12, 2) from by decide +kernel) (by decide) (cn_arr (ak := 0) (f0 (by omega)) (show decode prog_4_method_1_code 7 = .ok (.newarray .int, 2) from by decide +kernel) rfl (Tg_of (t1_1 54 rfl) rfl) (hl 1 50 12 rfl) (by decide) (by decide) (by decide) (by decide) rfl ⟨Nat.le_of_ble_eq_true rfl, Nat.le_of_ble_eq_true rfl⟩ (cp_put hkF ck2 (show decode prog_4_method_1_code 9 = .ok (.putfield 9, 3) from by decide +kernel) ⟨by omega, by omega⟩ (hl 0 2 5 rfl) (by decide) (j := 0) (by decide) (Tg_of (t1_2 12 rfl) rfl) (by decide) rfl rfl rfl rfl (r_aload_n (i := 0) (show decode prog_4_method_1_code 12 = .ok (.aload_n 0, 1) from by decide +kernel) rfl rfl (r_bipush (v := 12) (show decode prog_4_method_1_code 13 = .ok (.bipush 12, 2) from by decide +kernel) (by decide) (cn_arr (ak := 0) (f1 (by omega)) (show decode prog_4_method_1_code 15 = .ok (.newarray .int, 2) from by decide +kernel) rfl (Tg_of (t1_1 54 rfl) rfl) (hl 2 50 12 rfl) (by decide) (by decide) (by decide) (by decide) rfl ⟨Nat.le_of_ble_eq_true rfl, Nat.le_of_ble_eq_true rfl⟩ (cp_put hkF ck2 (show decode prog_4_method_1_code 17 = .ok (.putfield 15, 3) from by decide +kernel) ⟨by omega, by omega⟩ (hl 0 2 5 rfl) (by decide) (j := 1) (by decide) (Tg_of (t1_2 13 rfl) rfl) (by decide) rfl rfl rfl rfl (r_aload_n (i := 0) (show decode prog_4_method_1_code 20 = .ok (.aload_n 0, 1) from by decide +kernel) rfl rfl (r_bipush (v := 12) (show decode prog_4_method_1_code 21 = .ok (.bipush 12, 2) from by decide +kernel) (by decide) (cn_arr (ak := 0) (f2 (by omega)) (show decode prog_4_method_1_code 23 = .ok (.newarray .int, 2) from by decide +kernel) rfl (Tg_of (t1_1 54 rfl) rfl) (hl 3 50 12 rfl) (by decide) (by decide) (by decide) (by decide) rfl ⟨Nat.le_of_ble_eq_true rfl, Nat.le_of_ble_eq_true rfl⟩ (cp_put hkF ck2 (show decode prog_4_method_1_code 25 = .ok (.putfield 18, 3) from by decide +kernel) ⟨by omega, by omega⟩ (hl 0 2 5 rfl) (by decide) (j := 2) (by decide) (Tg_of (t1_2 14 rfl) rfl) (by decide) rfl rfl rfl rfl (r_aload_n (i := 0) (show decode prog_4_method_1_code 28 = .ok (.aload_n 0, 1) from by decide +kernel) rfl rfl (r_bipush (v := 12) (show decode prog_4_method_1_code 29 = .ok (.bipush 12, 2) from by decide +kernel) (by decide) (cn_arr (ak := 0) (f3 (by omega)) (show decode prog_4_method_1_code 31 = .ok (.newarray .int, 2) from by decide +kernel) rfl (Tg_of (t1_1 54 rfl) rfl) (hl 4 50 12 rfl) (by decide) (by decide) (by decide) (by decide) rfl ⟨Nat.le_of_ble_eq_true rfl, Nat.le_of_ble_eq_true rfl⟩ (cp_put hkF ck2 (show decode prog_4_method_1_code 33 = .ok (.putfield 21, 3) from by decide +kernel) ⟨by omega, by omega⟩ (hl 0 2 5 rfl) (by decide) (j := 3) (by decide) (Tg_of (t1_2 15 rfl) rfl) (by decide) rfl rfl rfl rfl (r_vreturn (show decode prog_4_method_1_code 36 = .ok (.return_, 1) from by decide +kernel) rfl (Nat.le_of_ble_eq_true rfl) (Nat.le_of_ble_eq_true rfl) (k _ ?_))))))))))))))))))))
  refine ⟨fun p h1 h2 j => ?_, fun p h1 j => ?_, fun _ _ => rfl, fun _ _ => rfl, fun p hp => ?_⟩
  · obtain ⟨i, rfl⟩ : ∃ i, p = kB κ + (d0 + i) := ⟨p - kB κ - d0, by omega⟩
    have hn : ∀ p, kB κ + d0 ≤ p → gr st p = fun _ => none := fun p hp => (hFr p hp).2.2
    have hc : i = 0 ∨ i = 1 ∨ i = 2 ∨ i = 3 ∨ i = 4 := by omega
    rcases hc with rfl | rfl | rfl | rfl | rfl
    · unfold RT
      rw [show lay κ (kB κ + (d0 + 0)) = (2, 5) from hl0]
      show gr _ (kB κ + d0) j = _
      rw [gr_ur, gr_ur, gr_ur, gr_ur, hn _ (Nat.le_refl _)]
      by_cases hj : j < 5
      · have hcj : j = 0 ∨ j = 1 ∨ j = 2 ∨ j = 3 ∨ j = 4 := by omega
        rcases hcj with rfl | rfl | rfl | rfl | rfl
        · rw [if_neg (by omega), if_neg (by omega), if_neg (by omega), if_pos ⟨rfl, rfl⟩]
          show some _ = some (kB κ + (d0 + 0) + 1)
          congr 1
        · rw [if_neg (by omega), if_neg (by omega), if_pos ⟨rfl, rfl⟩]
          show some _ = some (kB κ + (d0 + 0) + 2)
          congr 1
        · rw [if_neg (by omega), if_pos ⟨rfl, rfl⟩]
          show some _ = some (kB κ + (d0 + 0) + 3)
          congr 1
        · rw [if_pos ⟨rfl, rfl⟩]
          show some _ = some (kB κ + (d0 + 0) + 4)
          congr 1
        · rw [if_neg (by omega), if_neg (by omega), if_neg (by omega), if_neg (by omega)]
          rfl
      · rw [if_neg (by omega), if_neg (by omega), if_neg (by omega), if_neg (by omega)]
        have hft : ft 2 j = 0 := by
          unfold ft
          rw [show ftL.getD 2 [] = [4, 5, 6, 7, 0] from rfl, List.getD_eq_getElem?_getD, List.getElem?_eq_none (by show 5 ≤ j; omega)]
          rfl
        show none = if (2 : Nat) < 50 then _ else _
        rw [if_pos (by decide)]
        show none = (match ft 2 j with | 0 => _ | 1 => _ | 2 => _ | d + 3 => _)
        rw [hft]
    · rw [gr_ur, if_neg (by omega), gr_ur, if_neg (by omega), gr_ur, if_neg (by omega), gr_ur, if_neg (by omega)]
      rw [hn _ (by omega)]
      unfold RT
      rw [hl 1 50 12 rfl]
      rfl
    · rw [gr_ur, if_neg (by omega), gr_ur, if_neg (by omega), gr_ur, if_neg (by omega), gr_ur, if_neg (by omega)]
      rw [hn _ (by omega)]
      unfold RT
      rw [hl 2 50 12 rfl]
      rfl
    · rw [gr_ur, if_neg (by omega), gr_ur, if_neg (by omega), gr_ur, if_neg (by omega), gr_ur, if_neg (by omega)]
      rw [hn _ (by omega)]
      unfold RT
      rw [hl 3 50 12 rfl]
      rfl
    · rw [gr_ur, if_neg (by omega), gr_ur, if_neg (by omega), gr_ur, if_neg (by omega), gr_ur, if_neg (by omega)]
      rw [hn _ (by omega)]
      unfold RT
      rw [hl 4 50 12 rfl]
      rfl
  · rw [gr_ur, if_neg (by omega), gr_ur, if_neg (by omega), gr_ur, if_neg (by omega), gr_ur, if_neg (by omega)]
  · exact (Fresh.ur (Fresh.ur (Fresh.ur (Fresh.ur (hFr.up (d2 := d0 + 5) (by omega)) (by omega)) (by omega)) (by omega)) (by omega)) p hp
theorem c_Nb {κ : Kp} {d0 : Nat} {st : AS} {Q : Option Value → AS → Prop} (hkF : kF κ = false) (hl : LY κ d0 slb4) (hFr : Fresh κ d0 st) (k : ∀ st', CP κ d0 5 st st' → Q none st') : CA κ M_Nb_init (d0 + 1) (d0 + 5) [.ref (kB κ + d0)] st Q := by
  have hl0 := hl 0 4 5 rfl
  have f0 : ∀ {e : Nat}, d0 + 1 ≤ e → Fresh κ e st := fun he => by
    have h := hFr.up (d2 := _) (show d0 ≤ _ from Nat.le_of_succ_le he)
    exact h
  have f1 : ∀ {e : Nat}, d0 + 1 ≤ e → Fresh κ e (ur st (kB κ + d0) 0 (some (kB κ + (d0 + 1)))) := fun he => by
    have h := hFr.up (d2 := _) (show d0 ≤ _ from Nat.le_of_succ_le he)
    exact Fresh.ur (h) (by omega)
  have f2 : ∀ {e : Nat}, d0 + 1 ≤ e → Fresh κ e (ur (ur st (kB κ + d0) 0 (some (kB κ + (d0 + 1)))) (kB κ + d0) 1 (some (kB κ + (d0 + 2)))) := fun he => by
    have h := hFr.up (d2 := _) (show d0 ≤ _ from Nat.le_of_succ_le he)
    exact Fresh.ur (Fresh.ur (h) (by omega)) (by omega)
  have f3 : ∀ {e : Nat}, d0 + 1 ≤ e → Fresh κ e (ur (ur (ur st (kB κ + d0) 0 (some (kB κ + (d0 + 1)))) (kB κ + d0) 1 (some (kB κ + (d0 + 2)))) (kB κ + d0) 2 (some (kB κ + (d0 + 3)))) := fun he => by
    have h := hFr.up (d2 := _) (show d0 ≤ _ from Nat.le_of_succ_le he)
    exact Fresh.ur (Fresh.ur (Fresh.ur (h) (by omega)) (by omega)) (by omega)
  refine CA_of (lv := [some (.ref (kB κ + d0))]) (show plainName "CrumpledSheet$Neighbours" = true by decide) (Nat.le_of_ble_eq_true rfl) (And.intro rfl trivial) (r_aload_n (i := 0) (show decode prog_6_method_1_code 0 = .ok (.aload_n 0, 1) from by decide +kernel) rfl rfl (ra_objInit (show decode prog_6_method_1_code 1 = .ok (.invokespecial 3, 3) from by decide +kernel) (Tg_of (t1_1 230 rfl) rfl) (Nat.le_of_ble_eq_true rfl) (Nat.le_of_ble_eq_true rfl) ⟨(Tg_of (t1_1 27 rfl) rfl), (Tg_of (t1_1 28 rfl) rfl)⟩ (r_aload_n (i := 0) (show decode prog_6_method_1_code 4 = .ok (.aload_n 0, 1) from by decide +kernel) rfl rfl (r_sipush (v := 201) (show decode prog_6_method_1_code 5 = .ok (.sipush 201, 3) from by decide +kernel) (by decide) (cn_arr (ak := 0) (f0 (by omega)) (show decode prog_6_method_1_code 8 = .ok (.newarray .int, 2) from by decide +kernel) rfl (Tg_of (t1_1 54 rfl) rfl) (hl 1 50 201 rfl) (by decide) (by decide) (by decide) (by decide) rfl ⟨Nat.le_of_ble_eq_true rfl, Nat.le_of_ble_eq_true rfl⟩ (cp_put hkF ck4 (show decode prog_6_method_1_code 10 = .ok (.putfield 9, 3) from by decide +kernel) ⟨by omega, by omega⟩ (hl 0 4 5 rfl) (by decide) (j := 0) (by decide) (Tg_of (t1_1 231 rfl) rfl) (by decide) rfl rfl rfl rfl (r_aload_n (i := 0) (show decode prog_6_method_1_code 13 = .ok (.aload_n 0, 1) from by decide +kernel) rfl rfl (r_sipush (v := 1200) (show decode prog_6_method_1_code 14 = .ok (.sipush 1200, 3) from by decide +kernel) (by decide) (cn_arr (ak := 0) (f1 (by omega)) (show decode prog_6_method_1_code 17 = .ok (.newarray .int, 2) from by decide +kernel) rfl (Tg_of (t1_1 54 rfl) rfl) (hl 2 50 1200 rfl) (by decide) (by decide) (by decide) (by decide) rfl ⟨Nat.le_of_ble_eq_true rfl, Nat.le_of_ble_eq_true rfl⟩ (cp_put hkF ck4 (show decode prog_6_method_1_code 19 = .ok (.putfield 15, 3) from by decide +kernel) ⟨by omega, by omega⟩ (hl 0 4 5 rfl) (by decide) (j := 1) (by decide) (Tg_of (t1_1 232 rfl) rfl) (by decide) rfl rfl rfl rfl (r_aload_n (i := 0) (show decode prog_6_method_1_code 22 = .ok (.aload_n 0, 1) from by decide +kernel) rfl rfl (r_sipush (v := 200) (show decode prog_6_method_1_code 23 = .ok (.sipush 200, 3) from by decide +kernel) (by decide) (cn_arr (ak := 0) (f2 (by omega)) (show decode prog_6_method_1_code 26 = .ok (.newarray .int, 2) from by decide +kernel) rfl (Tg_of (t1_1 54 rfl) rfl) (hl 3 50 200 rfl) (by decide) (by decide) (by decide) (by decide) rfl ⟨Nat.le_of_ble_eq_true rfl, Nat.le_of_ble_eq_true rfl⟩ (cp_put hkF ck4 (show decode prog_6_method_1_code 28 = .ok (.putfield 18, 3) from by decide +kernel) ⟨by omega, by omega⟩ (hl 0 4 5 rfl) (by decide) (j := 2) (by decide) (Tg_of (t1_1 233 rfl) rfl) (by decide) rfl rfl rfl rfl (r_aload_n (i := 0) (show decode prog_6_method_1_code 31 = .ok (.aload_n 0, 1) from by decide +kernel) rfl rfl (r_sipush (v := 200) (show decode prog_6_method_1_code 32 = .ok (.sipush 200, 3) from by decide +kernel) (by decide) (cn_arr (ak := 0) (f3 (by omega)) (show decode prog_6_method_1_code 35 = .ok (.newarray .int, 2) from by decide +kernel) rfl (Tg_of (t1_1 54 rfl) rfl) (hl 4 50 200 rfl) (by decide) (by decide) (by decide) (by decide) rfl ⟨Nat.le_of_ble_eq_true rfl, Nat.le_of_ble_eq_true rfl⟩ (cp_put hkF ck4 (show decode prog_6_method_1_code 37 = .ok (.putfield 21, 3) from by decide +kernel) ⟨by omega, by omega⟩ (hl 0 4 5 rfl) (by decide) (j := 3) (by decide) (Tg_of (t1_1 234 rfl) rfl) (by decide) rfl rfl rfl rfl (r_vreturn (show decode prog_6_method_1_code 40 = .ok (.return_, 1) from by decide +kernel) rfl (Nat.le_of_ble_eq_true rfl) (Nat.le_of_ble_eq_true rfl) (k _ ?_))))))))))))))))))))
  refine ⟨fun p h1 h2 j => ?_, fun p h1 j => ?_, fun _ _ => rfl, fun _ _ => rfl, fun p hp => ?_⟩
  · obtain ⟨i, rfl⟩ : ∃ i, p = kB κ + (d0 + i) := ⟨p - kB κ - d0, by omega⟩
    have hn : ∀ p, kB κ + d0 ≤ p → gr st p = fun _ => none := fun p hp => (hFr p hp).2.2
    have hc : i = 0 ∨ i = 1 ∨ i = 2 ∨ i = 3 ∨ i = 4 := by omega
    rcases hc with rfl | rfl | rfl | rfl | rfl
    · unfold RT
      rw [show lay κ (kB κ + (d0 + 0)) = (4, 5) from hl0]
      show gr _ (kB κ + d0) j = _
      rw [gr_ur, gr_ur, gr_ur, gr_ur, hn _ (Nat.le_refl _)]
      by_cases hj : j < 5
      · have hcj : j = 0 ∨ j = 1 ∨ j = 2 ∨ j = 3 ∨ j = 4 := by omega
        rcases hcj with rfl | rfl | rfl | rfl | rfl
        · rw [if_neg (by omega), if_neg (by omega), if_neg (by omega), if_pos ⟨rfl, rfl⟩]
          show some _ = some (kB κ + (d0 + 0) + 1)
          congr 1
        · rw [if_neg (by omega), if_neg (by omega), if_pos ⟨rfl, rfl⟩]
          show some _ = some (kB κ + (d0 + 0) + 2)
          congr 1
        · rw [if_neg (by omega), if_pos ⟨rfl, rfl⟩]
          show some _ = some (kB κ + (d0 + 0) + 3)
          congr 1
        · rw [if_pos ⟨rfl, rfl⟩]
          show some _ = some (kB κ + (d0 + 0) + 4)
          congr 1
        · rw [if_neg (by omega), if_neg (by omega), if_neg (by omega), if_neg (by omega)]
          rfl
      · rw [if_neg (by omega), if_neg (by omega), if_neg (by omega), if_neg (by omega)]
        have hft : ft 4 j = 0 := by
          unfold ft
          rw [show ftL.getD 4 [] = [4, 5, 6, 7, 0] from rfl, List.getD_eq_getElem?_getD, List.getElem?_eq_none (by show 5 ≤ j; omega)]
          rfl
        show none = if (4 : Nat) < 50 then _ else _
        rw [if_pos (by decide)]
        show none = (match ft 4 j with | 0 => _ | 1 => _ | 2 => _ | d + 3 => _)
        rw [hft]
    · rw [gr_ur, if_neg (by omega), gr_ur, if_neg (by omega), gr_ur, if_neg (by omega), gr_ur, if_neg (by omega)]
      rw [hn _ (by omega)]
      unfold RT
      rw [hl 1 50 201 rfl]
      rfl
    · rw [gr_ur, if_neg (by omega), gr_ur, if_neg (by omega), gr_ur, if_neg (by omega), gr_ur, if_neg (by omega)]
      rw [hn _ (by omega)]
      unfold RT
      rw [hl 2 50 1200 rfl]
      rfl
    · rw [gr_ur, if_neg (by omega), gr_ur, if_neg (by omega), gr_ur, if_neg (by omega), gr_ur, if_neg (by omega)]
      rw [hn _ (by omega)]
      unfold RT
      rw [hl 3 50 200 rfl]
      rfl
    · rw [gr_ur, if_neg (by omega), gr_ur, if_neg (by omega), gr_ur, if_neg (by omega), gr_ur, if_neg (by omega)]
      rw [hn _ (by omega)]
      unfold RT
      rw [hl 4 50 200 rfl]
      rfl
  · rw [gr_ur, if_neg (by omega), gr_ur, if_neg (by omega), gr_ur, if_neg (by omega), gr_ur, if_neg (by omega)]
  · exact (Fresh.ur (Fresh.ur (Fresh.ur (Fresh.ur (hFr.up (d2 := d0 + 5) (by omega)) (by omega)) (by omega)) (by omega)) (by omega)) p hp
theorem c_Sp {κ : Kp} {d0 : Nat} {st : AS} {Q : Option Value → AS → Prop} (hkF : kF κ = false) (hl : LY κ d0 slb10) (hFr : Fresh κ d0 st) (k : ∀ st', CP κ d0 5 st st' → Q none st') : CA κ M_Sp_init (d0 + 1) (d0 + 5) [.ref (kB κ + d0)] st Q := by
  have hl0 := hl 0 10 7 rfl
  have f0 : ∀ {e : Nat}, d0 + 1 ≤ e → Fresh κ e st := fun he => by
    have h := hFr.up (d2 := _) (show d0 ≤ _ from Nat.le_of_succ_le he)
    exact h
  have f1 : ∀ {e : Nat}, d0 + 1 ≤ e → Fresh κ e (ur st (kB κ + d0) 0 (some (kB κ + (d0 + 1)))) := fun he => by
    have h := hFr.up (d2 := _) (show d0 ≤ _ from Nat.le_of_succ_le he)
    exact Fresh.ur (h) (by omega)
  have f2 : ∀ {e : Nat}, d0 + 1 ≤ e → Fresh κ e (ur (ur st (kB κ + d0) 0 (some (kB κ + (d0 + 1)))) (kB κ + d0) 1 (some (kB κ + (d0 + 2)))) := fun he => by
    have h := hFr.up (d2 := _) (show d0 ≤ _ from Nat.le_of_succ_le he)
    exact Fresh.ur (Fresh.ur (h) (by omega)) (by omega)
  have f3 : ∀ {e : Nat}, d0 + 1 ≤ e → Fresh κ e (ur (ur (ur st (kB κ + d0) 0 (some (kB κ + (d0 + 1)))) (kB κ + d0) 1 (some (kB κ + (d0 + 2)))) (kB κ + d0) 3 (some (kB κ + (d0 + 3)))) := fun he => by
    have h := hFr.up (d2 := _) (show d0 ≤ _ from Nat.le_of_succ_le he)
    exact Fresh.ur (Fresh.ur (Fresh.ur (h) (by omega)) (by omega)) (by omega)
  refine CA_of (lv := [some (.ref (kB κ + d0))]) (show plainName "CrumpledSheet$Strip" = true by decide) (Nat.le_of_ble_eq_true rfl) (And.intro rfl trivial) (r_aload_n (i := 0) (show decode prog_12_method_1_code 0 = .ok (.aload_n 0, 1) from by decide +kernel) rfl rfl (ra_objInit (show decode prog_12_method_1_code 1 = .ok (.invokespecial 3, 3) from by decide +kernel) (Tg_of (t1_2 55 rfl) rfl) (Nat.le_of_ble_eq_true rfl) (Nat.le_of_ble_eq_true rfl) ⟨(Tg_of (t1_1 27 rfl) rfl), (Tg_of (t1_1 28 rfl) rfl)⟩ (r_aload_n (i := 0) (show decode prog_12_method_1_code 4 = .ok (.aload_n 0, 1) from by decide +kernel) rfl rfl (r_bipush (v := 21) (show decode prog_12_method_1_code 5 = .ok (.bipush 21, 2) from by decide +kernel) (by decide) (cn_arr (ak := 0) (f0 (by omega)) (show decode prog_12_method_1_code 7 = .ok (.newarray .int, 2) from by decide +kernel) rfl (Tg_of (t1_1 54 rfl) rfl) (hl 1 50 21 rfl) (by decide) (by decide) (by decide) (by decide) rfl ⟨Nat.le_of_ble_eq_true rfl, Nat.le_of_ble_eq_true rfl⟩ (cp_put hkF ck10 (show decode prog_12_method_1_code 9 = .ok (.putfield 9, 3) from by decide +kernel) ⟨by omega, by omega⟩ (hl 0 10 7 rfl) (by decide) (j := 0) (by decide) (Tg_of (t1_2 56 rfl) rfl) (by decide) rfl rfl rfl rfl (r_aload_n (i := 0) (show decode prog_12_method_1_code 12 = .ok (.aload_n 0, 1) from by decide +kernel) rfl rfl (r_bipush (v := 20) (show decode prog_12_method_1_code 13 = .ok (.bipush 20, 2) from by decide +kernel) (by decide) (cn_arr (ak := 0) (f1 (by omega)) (show decode prog_12_method_1_code 15 = .ok (.newarray .int, 2) from by decide +kernel) rfl (Tg_of (t1_1 54 rfl) rfl) (hl 2 50 20 rfl) (by decide) (by decide) (by decide) (by decide) rfl ⟨Nat.le_of_ble_eq_true rfl, Nat.le_of_ble_eq_true rfl⟩ (cp_put hkF ck10 (show decode prog_12_method_1_code 17 = .ok (.putfield 15, 3) from by decide +kernel) ⟨by omega, by omega⟩ (hl 0 10 7 rfl) (by decide) (j := 1) (by decide) (Tg_of (t1_2 57 rfl) rfl) (by decide) rfl rfl rfl rfl (r_aload_n (i := 0) (show decode prog_12_method_1_code 20 = .ok (.aload_n 0, 1) from by decide +kernel) rfl rfl (r_bipush (v := 21) (show decode prog_12_method_1_code 21 = .ok (.bipush 21, 2) from by decide +kernel) (by decide) (cn_arr (ak := 0) (f2 (by omega)) (show decode prog_12_method_1_code 23 = .ok (.newarray .int, 2) from by decide +kernel) rfl (Tg_of (t1_1 54 rfl) rfl) (hl 3 50 21 rfl) (by decide) (by decide) (by decide) (by decide) rfl ⟨Nat.le_of_ble_eq_true rfl, Nat.le_of_ble_eq_true rfl⟩ (cp_put hkF ck10 (show decode prog_12_method_1_code 25 = .ok (.putfield 18, 3) from by decide +kernel) ⟨by omega, by omega⟩ (hl 0 10 7 rfl) (by decide) (j := 3) (by decide) (Tg_of (t1_2 59 rfl) rfl) (by decide) rfl rfl rfl rfl (r_aload_n (i := 0) (show decode prog_12_method_1_code 28 = .ok (.aload_n 0, 1) from by decide +kernel) rfl rfl (r_bipush (v := 20) (show decode prog_12_method_1_code 29 = .ok (.bipush 20, 2) from by decide +kernel) (by decide) (cn_arr (ak := 0) (f3 (by omega)) (show decode prog_12_method_1_code 31 = .ok (.newarray .int, 2) from by decide +kernel) rfl (Tg_of (t1_1 54 rfl) rfl) (hl 4 50 20 rfl) (by decide) (by decide) (by decide) (by decide) rfl ⟨Nat.le_of_ble_eq_true rfl, Nat.le_of_ble_eq_true rfl⟩ (cp_put hkF ck10 (show decode prog_12_method_1_code 33 = .ok (.putfield 21, 3) from by decide +kernel) ⟨by omega, by omega⟩ (hl 0 10 7 rfl) (by decide) (j := 4) (by decide) (Tg_of (t1_2 60 rfl) rfl) (by decide) rfl rfl rfl rfl (r_vreturn (show decode prog_12_method_1_code 36 = .ok (.return_, 1) from by decide +kernel) rfl (Nat.le_of_ble_eq_true rfl) (Nat.le_of_ble_eq_true rfl) (k _ ?_))))))))))))))))))))
  refine ⟨fun p h1 h2 j => ?_, fun p h1 j => ?_, fun _ _ => rfl, fun _ _ => rfl, fun p hp => ?_⟩
  · obtain ⟨i, rfl⟩ : ∃ i, p = kB κ + (d0 + i) := ⟨p - kB κ - d0, by omega⟩
    have hn : ∀ p, kB κ + d0 ≤ p → gr st p = fun _ => none := fun p hp => (hFr p hp).2.2
    have hc : i = 0 ∨ i = 1 ∨ i = 2 ∨ i = 3 ∨ i = 4 := by omega
    rcases hc with rfl | rfl | rfl | rfl | rfl
    · unfold RT
      rw [show lay κ (kB κ + (d0 + 0)) = (10, 7) from hl0]
      show gr _ (kB κ + d0) j = _
      rw [gr_ur, gr_ur, gr_ur, gr_ur, hn _ (Nat.le_refl _)]
      by_cases hj : j < 7
      · have hcj : j = 0 ∨ j = 1 ∨ j = 2 ∨ j = 3 ∨ j = 4 ∨ j = 5 ∨ j = 6 := by omega
        rcases hcj with rfl | rfl | rfl | rfl | rfl | rfl | rfl
        · rw [if_neg (by omega), if_neg (by omega), if_neg (by omega), if_pos ⟨rfl, rfl⟩]
          show some _ = some (kB κ + (d0 + 0) + 1)
          congr 1
        · rw [if_neg (by omega), if_neg (by omega), if_pos ⟨rfl, rfl⟩]
          show some _ = some (kB κ + (d0 + 0) + 2)
          congr 1
        · rw [if_neg (by omega), if_neg (by omega), if_neg (by omega), if_neg (by omega)]
          rfl
        · rw [if_neg (by omega), if_pos ⟨rfl, rfl⟩]
          show some _ = some (kB κ + (d0 + 0) + 3)
          congr 1
        · rw [if_pos ⟨rfl, rfl⟩]
          show some _ = some (kB κ + (d0 + 0) + 4)
          congr 1
        · rw [if_neg (by omega), if_neg (by omega), if_neg (by omega), if_neg (by omega)]
          rfl
        · rw [if_neg (by omega), if_neg (by omega), if_neg (by omega), if_neg (by omega)]
          rfl
      · rw [if_neg (by omega), if_neg (by omega), if_neg (by omega), if_neg (by omega)]
        have hft : ft 10 j = 0 := by
          unfold ft
          rw [show ftL.getD 10 [] = [4, 5, 0, 6, 7, 0, 0] from rfl, List.getD_eq_getElem?_getD, List.getElem?_eq_none (by show 7 ≤ j; omega)]
          rfl
        show none = if (10 : Nat) < 50 then _ else _
        rw [if_pos (by decide)]
        show none = (match ft 10 j with | 0 => _ | 1 => _ | 2 => _ | d + 3 => _)
        rw [hft]
    · rw [gr_ur, if_neg (by omega), gr_ur, if_neg (by omega), gr_ur, if_neg (by omega), gr_ur, if_neg (by omega)]
      rw [hn _ (by omega)]
      unfold RT
      rw [hl 1 50 21 rfl]
      rfl
    · rw [gr_ur, if_neg (by omega), gr_ur, if_neg (by omega), gr_ur, if_neg (by omega), gr_ur, if_neg (by omega)]
      rw [hn _ (by omega)]
      unfold RT
      rw [hl 2 50 20 rfl]
      rfl
    · rw [gr_ur, if_neg (by omega), gr_ur, if_neg (by omega), gr_ur, if_neg (by omega), gr_ur, if_neg (by omega)]
      rw [hn _ (by omega)]
      unfold RT
      rw [hl 3 50 21 rfl]
      rfl
    · rw [gr_ur, if_neg (by omega), gr_ur, if_neg (by omega), gr_ur, if_neg (by omega), gr_ur, if_neg (by omega)]
      rw [hn _ (by omega)]
      unfold RT
      rw [hl 4 50 20 rfl]
      rfl
  · rw [gr_ur, if_neg (by omega), gr_ur, if_neg (by omega), gr_ur, if_neg (by omega), gr_ur, if_neg (by omega)]
  · exact (Fresh.ur (Fresh.ur (Fresh.ur (Fresh.ur (hFr.up (d2 := d0 + 5) (by omega)) (by omega)) (by omega)) (by omega)) (by omega)) p hp
theorem c_Sh {κ : Kp} {d0 : Nat} {r1 : Nat} {st : AS} {Q : Option Value → AS → Prop} (hkF : kF κ = false) (hl : LY κ d0 slb8) (hFr : Fresh κ d0 st) (hv : r1 = kB κ + 12) (k : ∀ st', CP κ d0 5 st st' → Q none st') : CA κ M_Sh_init (d0 + 1) (d0 + 5) [.ref (kB κ + d0), .ref r1] st Q := by
  have hl0 := hl 0 8 14 rfl
  have f0 : ∀ {e : Nat}, d0 + 1 ≤ e → Fresh κ e st := fun he => by
    have h := hFr.up (d2 := _) (show d0 ≤ _ from Nat.le_of_succ_le he)
    exact h
  have f1 : ∀ {e : Nat}, d0 + 1 ≤ e → Fresh κ e (ur st (kB κ + d0) 0 (some (kB κ + (d0 + 1)))) := fun he => by
    have h := hFr.up (d2 := _) (show d0 ≤ _ from Nat.le_of_succ_le he)
    exact Fresh.ur (h) (by omega)
  have f2 : ∀ {e : Nat}, d0 + 1 ≤ e → Fresh κ e (ur (ur st (kB κ + d0) 0 (some (kB κ + (d0 + 1)))) (kB κ + d0) 1 (some (kB κ + (d0 + 2)))) := fun he => by
    have h := hFr.up (d2 := _) (show d0 ≤ _ from Nat.le_of_succ_le he)
    exact Fresh.ur (Fresh.ur (h) (by omega)) (by omega)
  have f3 : ∀ {e : Nat}, d0 + 1 ≤ e → Fresh κ e (ur (ur (ur st (kB κ + d0) 0 (some (kB κ + (d0 + 1)))) (kB κ + d0) 1 (some (kB κ + (d0 + 2)))) (kB κ + d0) 2 (some (kB κ + (d0 + 3)))) := fun he => by
    have h := hFr.up (d2 := _) (show d0 ≤ _ from Nat.le_of_succ_le he)
    exact Fresh.ur (Fresh.ur (Fresh.ur (h) (by omega)) (by omega)) (by omega)
  have f4 : ∀ {e : Nat}, d0 + 1 ≤ e → Fresh κ e (ur (ur (ur (ur st (kB κ + d0) 0 (some (kB κ + (d0 + 1)))) (kB κ + d0) 1 (some (kB κ + (d0 + 2)))) (kB κ + d0) 2 (some (kB κ + (d0 + 3)))) (kB κ + d0) 3 (some (kB κ + (d0 + 4)))) := fun he => by
    have h := hFr.up (d2 := _) (show d0 ≤ _ from Nat.le_of_succ_le he)
    exact Fresh.ur (Fresh.ur (Fresh.ur (Fresh.ur (h) (by omega)) (by omega)) (by omega)) (by omega)
  refine CA_of (lv := [some (.ref (kB κ + d0)), some (.ref r1)]) (show plainName "CrumpledSheet$Sheet" = true by decide) (Nat.le_of_ble_eq_true rfl) (And.intro rfl (And.intro rfl trivial)) (r_aload_n (i := 0) (show decode prog_10_method_1_code 0 = .ok (.aload_n 0, 1) from by decide +kernel) rfl rfl (ra_objInit (show decode prog_10_method_1_code 1 = .ok (.invokespecial 3, 3) from by decide +kernel) (Tg_of (t1_1 129 rfl) rfl) (Nat.le_of_ble_eq_true rfl) (Nat.le_of_ble_eq_true rfl) ⟨(Tg_of (t1_1 27 rfl) rfl), (Tg_of (t1_1 28 rfl) rfl)⟩ (r_aload_n (i := 0) (show decode prog_10_method_1_code 4 = .ok (.aload_n 0, 1) from by decide +kernel) rfl rfl (r_sipush (v := 800) (show decode prog_10_method_1_code 5 = .ok (.sipush 800, 3) from by decide +kernel) (by decide) (cn_arr (ak := 0) (f0 (by omega)) (show decode prog_10_method_1_code 8 = .ok (.newarray .int, 2) from by decide +kernel) rfl (Tg_of (t1_1 54 rfl) rfl) (hl 1 50 800 rfl) (by decide) (by decide) (by decide) (by decide) rfl ⟨Nat.le_of_ble_eq_true rfl, Nat.le_of_ble_eq_true rfl⟩ (cp_put hkF ck8 (show decode prog_10_method_1_code 10 = .ok (.putfield 9, 3) from by decide +kernel) ⟨by omega, by omega⟩ (hl 0 8 14 rfl) (by decide) (j := 0) (by decide) (Tg_of (t1_1 130 rfl) rfl) (by decide) rfl rfl rfl rfl (r_aload_n (i := 0) (show decode prog_10_method_1_code 13 = .ok (.aload_n 0, 1) from by decide +kernel) rfl rfl (r_sipush (v := 2800) (show decode prog_10_method_1_code 14 = .ok (.sipush 2800, 3) from by decide +kernel) (by decide) (cn_arr (ak := 0) (f1 (by omega)) (show decode prog_10_method_1_code 17 = .ok (.newarray .int, 2) from by decide +kernel) rfl (Tg_of (t1_1 54 rfl) rfl) (hl 2 50 2800 rfl) (by decide) (by decide) (by decide) (by decide) rfl ⟨Nat.le_of_ble_eq_true rfl, Nat.le_of_ble_eq_true rfl⟩ (cp_put hkF ck8 (show decode prog_10_method_1_code 19 = .ok (.putfield 15, 3) from by decide +kernel) ⟨by omega, by omega⟩ (hl 0 8 14 rfl) (by decide) (j := 1) (by decide) (Tg_of (t1_1 131 rfl) rfl) (by decide) rfl rfl rfl rfl (r_aload_n (i := 0) (show decode prog_10_method_1_code 22 = .ok (.aload_n 0, 1) from by decide +kernel) rfl rfl (r_bipush (v := 61) (show decode prog_10_method_1_code 23 = .ok (.bipush 61, 2) from by decide +kernel) (by decide) (cn_arr (ak := 0) (f2 (by omega)) (show decode prog_10_method_1_code 25 = .ok (.newarray .int, 2) from by decide +kernel) rfl (Tg_of (t1_1 54 rfl) rfl) (hl 3 50 61 rfl) (by decide) (by decide) (by decide) (by decide) rfl ⟨Nat.le_of_ble_eq_true rfl, Nat.le_of_ble_eq_true rfl⟩ (cp_put hkF ck8 (show decode prog_10_method_1_code 27 = .ok (.putfield 18, 3) from by decide +kernel) ⟨by omega, by omega⟩ (hl 0 8 14 rfl) (by decide) (j := 2) (by decide) (Tg_of (t1_1 132 rfl) rfl) (by decide) rfl rfl rfl rfl (r_aload_n (i := 0) (show decode prog_10_method_1_code 30 = .ok (.aload_n 0, 1) from by decide +kernel) rfl rfl (r_bipush (v := 8) (show decode prog_10_method_1_code 31 = .ok (.bipush 8, 2) from by decide +kernel) (by decide) (cn_arr (ak := 1) (f3 (by omega)) (show decode prog_10_method_1_code 33 = .ok (.newarray .long, 2) from by decide +kernel) rfl (Tg_of (t1_1 55 rfl) rfl) (hl 4 51 8 rfl) (by decide) (by decide) (by decide) (by decide) rfl ⟨Nat.le_of_ble_eq_true rfl, Nat.le_of_ble_eq_true rfl⟩ (cp_put hkF ck8 (show decode prog_10_method_1_code 35 = .ok (.putfield 21, 3) from by decide +kernel) ⟨by omega, by omega⟩ (hl 0 8 14 rfl) (by decide) (j := 3) (by decide) (Tg_of (t1_1 133 rfl) rfl) (by decide) rfl rfl rfl rfl (r_aload_n (i := 0) (show decode prog_10_method_1_code 38 = .ok (.aload_n 0, 1) from by decide +kernel) rfl rfl (r_aload_n (i := 1) (show decode prog_10_method_1_code 39 = .ok (.aload_n 1, 1) from by decide +kernel) rfl rfl (cp_put hkF ck8 (show decode prog_10_method_1_code 40 = .ok (.putfield 25, 3) from by decide +kernel) ⟨by omega, by omega⟩ (hl 0 8 14 rfl) (by decide) (j := 4) (by decide) (Tg_of (t1_1 134 rfl) rfl) (by decide) rfl rfl rfl rfl (r_vreturn (show decode prog_10_method_1_code 43 = .ok (.return_, 1) from by decide +kernel) rfl (Nat.le_of_ble_eq_true rfl) (Nat.le_of_ble_eq_true rfl) (k _ ?_)))))))))))))))))))))))
  refine ⟨fun p h1 h2 j => ?_, fun p h1 j => ?_, fun _ _ => rfl, fun _ _ => rfl, fun p hp => ?_⟩
  · obtain ⟨i, rfl⟩ : ∃ i, p = kB κ + (d0 + i) := ⟨p - kB κ - d0, by omega⟩
    have hn : ∀ p, kB κ + d0 ≤ p → gr st p = fun _ => none := fun p hp => (hFr p hp).2.2
    have hc : i = 0 ∨ i = 1 ∨ i = 2 ∨ i = 3 ∨ i = 4 := by omega
    rcases hc with rfl | rfl | rfl | rfl | rfl
    · unfold RT
      rw [show lay κ (kB κ + (d0 + 0)) = (8, 14) from hl0]
      show gr _ (kB κ + d0) j = _
      rw [gr_ur, gr_ur, gr_ur, gr_ur, gr_ur, hn _ (Nat.le_refl _)]
      by_cases hj : j < 14
      · have hcj : j = 0 ∨ j = 1 ∨ j = 2 ∨ j = 3 ∨ j = 4 ∨ j = 5 ∨ j = 6 ∨ j = 7 ∨ j = 8 ∨ j = 9 ∨ j = 10 ∨ j = 11 ∨ j = 12 ∨ j = 13 := by omega
        rcases hcj with rfl | rfl | rfl | rfl | rfl | rfl | rfl | rfl | rfl | rfl | rfl | rfl | rfl | rfl
        · rw [if_neg (by omega), if_neg (by omega), if_neg (by omega), if_neg (by omega), if_pos ⟨rfl, rfl⟩]
          show some _ = some (kB κ + (d0 + 0) + 1)
          congr 1
        · rw [if_neg (by omega), if_neg (by omega), if_neg (by omega), if_pos ⟨rfl, rfl⟩]
          show some _ = some (kB κ + (d0 + 0) + 2)
          congr 1
        · rw [if_neg (by omega), if_neg (by omega), if_pos ⟨rfl, rfl⟩]
          show some _ = some (kB κ + (d0 + 0) + 3)
          congr 1
        · rw [if_neg (by omega), if_pos ⟨rfl, rfl⟩]
          show some _ = some (kB κ + (d0 + 0) + 4)
          congr 1
        · rw [if_pos ⟨rfl, rfl⟩, hv]
          rfl
        · rw [if_neg (by omega), if_neg (by omega), if_neg (by omega), if_neg (by omega), if_neg (by omega)]
          rfl
        · rw [if_neg (by omega), if_neg (by omega), if_neg (by omega), if_neg (by omega), if_neg (by omega)]
          rfl
        · rw [if_neg (by omega), if_neg (by omega), if_neg (by omega), if_neg (by omega), if_neg (by omega)]
          rfl
        · rw [if_neg (by omega), if_neg (by omega), if_neg (by omega), if_neg (by omega), if_neg (by omega)]
          rfl
        · rw [if_neg (by omega), if_neg (by omega), if_neg (by omega), if_neg (by omega), if_neg (by omega)]
          rfl
        · rw [if_neg (by omega), if_neg (by omega), if_neg (by omega), if_neg (by omega), if_neg (by omega)]
          rfl
        · rw [if_neg (by omega), if_neg (by omega), if_neg (by omega), if_neg (by omega), if_neg (by omega)]
          rfl
        · rw [if_neg (by omega), if_neg (by omega), if_neg (by omega), if_neg (by omega), if_neg (by omega)]
          rfl
        · rw [if_neg (by omega), if_neg (by omega), if_neg (by omega), if_neg (by omega), if_neg (by omega)]
          rfl
      · rw [if_neg (by omega), if_neg (by omega), if_neg (by omega), if_neg (by omega), if_neg (by omega)]
        have hft : ft 8 j = 0 := by
          unfold ft
          rw [show ftL.getD 8 [] = [4, 5, 6, 7, 2, 0, 0, 0, 0, 0, 0, 0, 0, 1] from rfl, List.getD_eq_getElem?_getD, List.getElem?_eq_none (by show 14 ≤ j; omega)]
          rfl
        show none = if (8 : Nat) < 50 then _ else _
        rw [if_pos (by decide)]
        show none = (match ft 8 j with | 0 => _ | 1 => _ | 2 => _ | d + 3 => _)
        rw [hft]
    · rw [gr_ur, if_neg (by omega), gr_ur, if_neg (by omega), gr_ur, if_neg (by omega), gr_ur, if_neg (by omega), gr_ur, if_neg (by omega)]
      rw [hn _ (by omega)]
      unfold RT
      rw [hl 1 50 800 rfl]
      rfl
    · rw [gr_ur, if_neg (by omega), gr_ur, if_neg (by omega), gr_ur, if_neg (by omega), gr_ur, if_neg (by omega), gr_ur, if_neg (by omega)]
      rw [hn _ (by omega)]
      unfold RT
      rw [hl 2 50 2800 rfl]
      rfl
    · rw [gr_ur, if_neg (by omega), gr_ur, if_neg (by omega), gr_ur, if_neg (by omega), gr_ur, if_neg (by omega), gr_ur, if_neg (by omega)]
      rw [hn _ (by omega)]
      unfold RT
      rw [hl 3 50 61 rfl]
      rfl
    · rw [gr_ur, if_neg (by omega), gr_ur, if_neg (by omega), gr_ur, if_neg (by omega), gr_ur, if_neg (by omega), gr_ur, if_neg (by omega)]
      rw [hn _ (by omega)]
      unfold RT
      rw [hl 4 51 8 rfl]
      rfl
  · rw [gr_ur, if_neg (by omega), gr_ur, if_neg (by omega), gr_ur, if_neg (by omega), gr_ur, if_neg (by omega), gr_ur, if_neg (by omega)]
  · exact (Fresh.ur (Fresh.ur (Fresh.ur (Fresh.ur (Fresh.ur (hFr.up (d2 := d0 + 5) (by omega)) (by omega)) (by omega)) (by omega)) (by omega)) (by omega)) p hp
theorem c_Si {κ : Kp} {d0 : Nat} {r1 : Nat} {st : AS} {Q : Option Value → AS → Prop} (hkF : kF κ = false) (hl : LY κ d0 slb9) (hFr : Fresh κ d0 st) (hv : r1 = kB κ + 54) (k : ∀ st', CP κ d0 3 st st' → Q none st') : CA κ M_Si_init (d0 + 1) (d0 + 3) [.ref (kB κ + d0), .ref r1] st Q := by
  have hl0 := hl 0 9 4 rfl
  have f0 : ∀ {e : Nat}, d0 + 1 ≤ e → Fresh κ e st := fun he => by
    have h := hFr.up (d2 := _) (show d0 ≤ _ from Nat.le_of_succ_le he)
    exact h
  have f1 : ∀ {e : Nat}, d0 + 1 ≤ e → Fresh κ e (ur st (kB κ + d0) 0 (some (kB κ + (d0 + 1)))) := fun he => by
    have h := hFr.up (d2 := _) (show d0 ≤ _ from Nat.le_of_succ_le he)
    exact Fresh.ur (h) (by omega)
  have f2 : ∀ {e : Nat}, d0 + 1 ≤ e → Fresh κ e (ur (ur st (kB κ + d0) 0 (some (kB κ + (d0 + 1)))) (kB κ + d0) 1 (some (kB κ + (d0 + 2)))) := fun he => by
    have h := hFr.up (d2 := _) (show d0 ≤ _ from Nat.le_of_succ_le he)
    exact Fresh.ur (Fresh.ur (h) (by omega)) (by omega)
  refine CA_of (lv := [some (.ref (kB κ + d0)), some (.ref r1)]) (show plainName "CrumpledSheet$Sight" = true by decide) (Nat.le_of_ble_eq_true rfl) (And.intro rfl (And.intro rfl trivial)) (r_aload_n (i := 0) (show decode prog_11_method_1_code 0 = .ok (.aload_n 0, 1) from by decide +kernel) rfl rfl (ra_objInit (show decode prog_11_method_1_code 1 = .ok (.invokespecial 3, 3) from by decide +kernel) (Tg_of (t1_1 191 rfl) rfl) (Nat.le_of_ble_eq_true rfl) (Nat.le_of_ble_eq_true rfl) ⟨(Tg_of (t1_1 27 rfl) rfl), (Tg_of (t1_1 28 rfl) rfl)⟩ (r_aload_n (i := 0) (show decode prog_11_method_1_code 4 = .ok (.aload_n 0, 1) from by decide +kernel) rfl rfl (r_sipush (v := 400) (show decode prog_11_method_1_code 5 = .ok (.sipush 400, 3) from by decide +kernel) (by decide) (cn_arr (ak := 0) (f0 (by omega)) (show decode prog_11_method_1_code 8 = .ok (.newarray .int, 2) from by decide +kernel) rfl (Tg_of (t1_1 54 rfl) rfl) (hl 1 50 400 rfl) (by decide) (by decide) (by decide) (by decide) rfl ⟨Nat.le_of_ble_eq_true rfl, Nat.le_of_ble_eq_true rfl⟩ (cp_put hkF ck9 (show decode prog_11_method_1_code 10 = .ok (.putfield 9, 3) from by decide +kernel) ⟨by omega, by omega⟩ (hl 0 9 4 rfl) (by decide) (j := 0) (by decide) (Tg_of (t1_1 192 rfl) rfl) (by decide) rfl rfl rfl rfl (r_aload_n (i := 0) (show decode prog_11_method_1_code 13 = .ok (.aload_n 0, 1) from by decide +kernel) rfl rfl (r_bipush (v := 8) (show decode prog_11_method_1_code 14 = .ok (.bipush 8, 2) from by decide +kernel) (by decide) (cn_arr (ak := 1) (f1 (by omega)) (show decode prog_11_method_1_code 16 = .ok (.newarray .long, 2) from by decide +kernel) rfl (Tg_of (t1_1 55 rfl) rfl) (hl 2 51 8 rfl) (by decide) (by decide) (by decide) (by decide) rfl ⟨Nat.le_of_ble_eq_true rfl, Nat.le_of_ble_eq_true rfl⟩ (cp_put hkF ck9 (show decode prog_11_method_1_code 18 = .ok (.putfield 15, 3) from by decide +kernel) ⟨by omega, by omega⟩ (hl 0 9 4 rfl) (by decide) (j := 1) (by decide) (Tg_of (t1_1 193 rfl) rfl) (by decide) rfl rfl rfl rfl (r_aload_n (i := 0) (show decode prog_11_method_1_code 21 = .ok (.aload_n 0, 1) from by decide +kernel) rfl rfl (r_aload_n (i := 1) (show decode prog_11_method_1_code 22 = .ok (.aload_n 1, 1) from by decide +kernel) rfl rfl (cp_put hkF ck9 (show decode prog_11_method_1_code 23 = .ok (.putfield 19, 3) from by decide +kernel) ⟨by omega, by omega⟩ (hl 0 9 4 rfl) (by decide) (j := 2) (by decide) (Tg_of (t1_1 194 rfl) rfl) (by decide) rfl rfl rfl rfl (r_vreturn (show decode prog_11_method_1_code 26 = .ok (.return_, 1) from by decide +kernel) rfl (Nat.le_of_ble_eq_true rfl) (Nat.le_of_ble_eq_true rfl) (k _ ?_)))))))))))))))
  refine ⟨fun p h1 h2 j => ?_, fun p h1 j => ?_, fun _ _ => rfl, fun _ _ => rfl, fun p hp => ?_⟩
  · obtain ⟨i, rfl⟩ : ∃ i, p = kB κ + (d0 + i) := ⟨p - kB κ - d0, by omega⟩
    have hn : ∀ p, kB κ + d0 ≤ p → gr st p = fun _ => none := fun p hp => (hFr p hp).2.2
    have hc : i = 0 ∨ i = 1 ∨ i = 2 := by omega
    rcases hc with rfl | rfl | rfl
    · unfold RT
      rw [show lay κ (kB κ + (d0 + 0)) = (9, 4) from hl0]
      show gr _ (kB κ + d0) j = _
      rw [gr_ur, gr_ur, gr_ur, hn _ (Nat.le_refl _)]
      by_cases hj : j < 4
      · have hcj : j = 0 ∨ j = 1 ∨ j = 2 ∨ j = 3 := by omega
        rcases hcj with rfl | rfl | rfl | rfl
        · rw [if_neg (by omega), if_neg (by omega), if_pos ⟨rfl, rfl⟩]
          show some _ = some (kB κ + (d0 + 0) + 1)
          congr 1
        · rw [if_neg (by omega), if_pos ⟨rfl, rfl⟩]
          show some _ = some (kB κ + (d0 + 0) + 2)
          congr 1
        · rw [if_pos ⟨rfl, rfl⟩, hv]
          rfl
        · rw [if_neg (by omega), if_neg (by omega), if_neg (by omega)]
          rfl
      · rw [if_neg (by omega), if_neg (by omega), if_neg (by omega)]
        have hft : ft 9 j = 0 := by
          unfold ft
          rw [show ftL.getD 9 [] = [4, 5, 2, 0] from rfl, List.getD_eq_getElem?_getD, List.getElem?_eq_none (by show 4 ≤ j; omega)]
          rfl
        show none = if (9 : Nat) < 50 then _ else _
        rw [if_pos (by decide)]
        show none = (match ft 9 j with | 0 => _ | 1 => _ | 2 => _ | d + 3 => _)
        rw [hft]
    · rw [gr_ur, if_neg (by omega), gr_ur, if_neg (by omega), gr_ur, if_neg (by omega)]
      rw [hn _ (by omega)]
      unfold RT
      rw [hl 1 50 400 rfl]
      rfl
    · rw [gr_ur, if_neg (by omega), gr_ur, if_neg (by omega), gr_ur, if_neg (by omega)]
      rw [hn _ (by omega)]
      unfold RT
      rw [hl 2 51 8 rfl]
      rfl
  · rw [gr_ur, if_neg (by omega), gr_ur, if_neg (by omega), gr_ur, if_neg (by omega)]
  · exact (Fresh.ur (Fresh.ur (Fresh.ur (hFr.up (d2 := d0 + 3) (by omega)) (by omega)) (by omega)) (by omega)) p hp
