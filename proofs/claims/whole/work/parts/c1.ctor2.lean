/-! constructors that make their program, and the reference's -/
theorem LY.sub {κ : Kp} {d0 k : Nat} {l l' : List (Nat × Nat)} (h : LY κ d0 l) (hs : ∀ i, i < l'.length → l[k + i]? = l'[i]?) : LY κ (d0 + k) l' := fun i c n hi => by
  have hlt : i < l'.length := (List.getElem?_eq_some_iff.mp hi).1
  rw [show d0 + k + i = d0 + (k + i) by omega]
  exact h (k + i) c n ((hs i hlt).trans hi)
theorem c_Lw {κ : Kp} {d0 : Nat} {st : AS} {Q : Option Value → AS → Prop} (hkF : kF κ = false) (hl : LY κ d0 slb3) (hFr : Fresh κ d0 st) (k : ∀ st', CP κ d0 9 st st' → Q none st') : CA κ M_Lw_init (d0 + 1) (d0 + 9) [.ref (kB κ + d0)] st Q := by
  have hl0 := hl 0 3 7 rfl
  have hlc : LY κ (d0 + 1) slb0 := hl.sub (by decide)
  refine CA_of (lv := [some (.ref (kB κ + d0))]) (show plainName "CrumpledSheet$Law" = true by decide) (Nat.le_of_ble_eq_true rfl) (And.intro rfl trivial) (r_aload_n (i := 0) (show decode prog_5_method_1_code 0 = .ok (.aload_n 0, 1) from by decide +kernel) rfl rfl (ra_objInit (show decode prog_5_method_1_code 1 = .ok (.invokespecial 3, 3) from by decide +kernel) (Tg_of (t1_1 92 rfl) rfl) (Nat.le_of_ble_eq_true rfl) (Nat.le_of_ble_eq_true rfl) ⟨(Tg_of (t1_1 27 rfl) rfl), (Tg_of (t1_1 28 rfl) rfl)⟩ (r_aload_n (i := 0) (show decode prog_5_method_1_code 4 = .ok (.aload_n 0, 1) from by decide +kernel) rfl rfl (cn_new hkF ck0 tyd0 (hFr.up (by omega)) (show decode prog_5_method_1_code 5 = .ok (.new 9, 3) from by decide +kernel) ⟨(Tg_of (t1_1 93 rfl) rfl), (Tg_of (t1_1 36 rfl) rfl), (Tg_of (t1_1 3 rfl) rfl)⟩ (hl 1 0 4 rfl) (by decide) ⟨Nat.le_of_ble_eq_true rfl, Nat.le_of_ble_eq_true rfl⟩ (r_dup (show decode prog_5_method_1_code 8 = .ok (.dup, 1) from by decide +kernel) rfl (ra_invIN (show decode prog_5_method_1_code 9 = .ok (.invokespecial 11, 3) from by decide +kernel) kl_Lw_11 rm_Lw_init_Cd_init (As := []) (rest := [.ref (kB κ + (d0 + 1)), .ref (kB κ + d0)]) rfl rfl (Nat.le_of_ble_eq_true rfl) (by omega) ⟨Nat.le_of_ble_eq_true rfl, Nat.le_of_ble_eq_true rfl⟩ (Q' := fun v st' => v = none ∧ CP κ (d0 + 1) 4 st st') (c_Cd hkF hlc (hFr.up (by omega)) (fun _ h => ⟨rfl, h⟩)) (fun v st1 hh => ?_)))))))
  obtain ⟨rfl, h1⟩ := hh
  have hF1 : Fresh κ (d0 + 5) st1 := h1.2.2.2.2
  have f0 : ∀ {e : Nat}, d0 + 5 ≤ e → Fresh κ e st1 := fun he => by
    have h := hF1.up he
    exact h
  have f1 : ∀ {e : Nat}, d0 + 5 ≤ e → Fresh κ e (ur st1 (kB κ + d0) 0 (some (kB κ + (d0 + 1)))) := fun he => by
    have h := hF1.up he
    exact Fresh.ur (h) (by omega)
  have f2 : ∀ {e : Nat}, d0 + 5 ≤ e → Fresh κ e (ur (ur st1 (kB κ + d0) 0 (some (kB κ + (d0 + 1)))) (kB κ + d0) 1 (some (kB κ + (d0 + 5)))) := fun he => by
    have h := hF1.up he
    exact Fresh.ur (Fresh.ur (h) (by omega)) (by omega)
  have f3 : ∀ {e : Nat}, d0 + 5 ≤ e → Fresh κ e (ur (ur (ur st1 (kB κ + d0) 0 (some (kB κ + (d0 + 1)))) (kB κ + d0) 1 (some (kB κ + (d0 + 5)))) (kB κ + d0) 2 (some (kB κ + (d0 + 6)))) := fun he => by
    have h := hF1.up he
    exact Fresh.ur (Fresh.ur (Fresh.ur (h) (by omega)) (by omega)) (by omega)
  have f4 : ∀ {e : Nat}, d0 + 5 ≤ e → Fresh κ e (ur (ur (ur (ur st1 (kB κ + d0) 0 (some (kB κ + (d0 + 1)))) (kB κ + d0) 1 (some (kB κ + (d0 + 5)))) (kB κ + d0) 2 (some (kB κ + (d0 + 6)))) (kB κ + d0) 3 (some (kB κ + (d0 + 7)))) := fun he => by
    have h := hF1.up he
    exact Fresh.ur (Fresh.ur (Fresh.ur (Fresh.ur (h) (by omega)) (by omega)) (by omega)) (by omega)
  show VA κ M_Lw_init _ Q _ _ _ 12 _ [.ref (kB κ + (d0 + 1)), .ref (kB κ + d0)] st1
  refine cp_put hkF ck3 (show decode prog_5_method_1_code 12 = .ok (.putfield 12, 3) from by decide +kernel) ⟨by omega, by omega⟩ (hl 0 3 7 rfl) (by decide) (j := 0) (by decide) (Tg_of (t1_1 95 rfl) rfl) (by decide) rfl rfl rfl rfl (r_aload_n (i := 0) (show decode prog_5_method_1_code 15 = .ok (.aload_n 0, 1) from by decide +kernel) rfl rfl (r_bipush (v := 12) (show decode prog_5_method_1_code 16 = .ok (.bipush 12, 2) from by decide +kernel) (by decide) (cn_arr (ak := 0) (f1 (by omega)) (show decode prog_5_method_1_code 18 = .ok (.newarray .int, 2) from by decide +kernel) rfl (Tg_of (t1_1 54 rfl) rfl) (hl 5 50 12 rfl) (by decide) (by decide) (by decide) (by decide) rfl ⟨Nat.le_of_ble_eq_true rfl, Nat.le_of_ble_eq_true rfl⟩ (cp_put hkF ck3 (show decode prog_5_method_1_code 20 = .ok (.putfield 18, 3) from by decide +kernel) ⟨by omega, by omega⟩ (hl 0 3 7 rfl) (by decide) (j := 1) (by decide) (Tg_of (t1_1 96 rfl) rfl) (by decide) rfl rfl rfl rfl (r_aload_n (i := 0) (show decode prog_5_method_1_code 23 = .ok (.aload_n 0, 1) from by decide +kernel) rfl rfl (r_bipush (v := 12) (show decode prog_5_method_1_code 24 = .ok (.bipush 12, 2) from by decide +kernel) (by decide) (cn_arr (ak := 0) (f2 (by omega)) (show decode prog_5_method_1_code 26 = .ok (.newarray .int, 2) from by decide +kernel) rfl (Tg_of (t1_1 54 rfl) rfl) (hl 6 50 12 rfl) (by decide) (by decide) (by decide) (by decide) rfl ⟨Nat.le_of_ble_eq_true rfl, Nat.le_of_ble_eq_true rfl⟩ (cp_put hkF ck3 (show decode prog_5_method_1_code 28 = .ok (.putfield 22, 3) from by decide +kernel) ⟨by omega, by omega⟩ (hl 0 3 7 rfl) (by decide) (j := 2) (by decide) (Tg_of (t1_1 97 rfl) rfl) (by decide) rfl rfl rfl rfl (r_aload_n (i := 0) (show decode prog_5_method_1_code 31 = .ok (.aload_n 0, 1) from by decide +kernel) rfl rfl (r_bipush (v := 12) (show decode prog_5_method_1_code 32 = .ok (.bipush 12, 2) from by decide +kernel) (by decide) (cn_arr (ak := 0) (f3 (by omega)) (show decode prog_5_method_1_code 34 = .ok (.newarray .int, 2) from by decide +kernel) rfl (Tg_of (t1_1 54 rfl) rfl) (hl 7 50 12 rfl) (by decide) (by decide) (by decide) (by decide) rfl ⟨Nat.le_of_ble_eq_true rfl, Nat.le_of_ble_eq_true rfl⟩ (cp_put hkF ck3 (show decode prog_5_method_1_code 36 = .ok (.putfield 25, 3) from by decide +kernel) ⟨by omega, by omega⟩ (hl 0 3 7 rfl) (by decide) (j := 3) (by decide) (Tg_of (t1_1 98 rfl) rfl) (by decide) rfl rfl rfl rfl (r_aload_n (i := 0) (show decode prog_5_method_1_code 39 = .ok (.aload_n 0, 1) from by decide +kernel) rfl rfl (r_bipush (v := 12) (show decode prog_5_method_1_code 40 = .ok (.bipush 12, 2) from by decide +kernel) (by decide) (cn_arr (ak := 0) (f4 (by omega)) (show decode prog_5_method_1_code 42 = .ok (.newarray .int, 2) from by decide +kernel) rfl (Tg_of (t1_1 54 rfl) rfl) (hl 8 50 12 rfl) (by decide) (by decide) (by decide) (by decide) rfl ⟨Nat.le_of_ble_eq_true rfl, Nat.le_of_ble_eq_true rfl⟩ (cp_put hkF ck3 (show decode prog_5_method_1_code 44 = .ok (.putfield 28, 3) from by decide +kernel) ⟨by omega, by omega⟩ (hl 0 3 7 rfl) (by decide) (j := 4) (by decide) (Tg_of (t1_1 99 rfl) rfl) (by decide) rfl rfl rfl rfl (r_vreturn (show decode prog_5_method_1_code 47 = .ok (.return_, 1) from by decide +kernel) rfl (Nat.le_of_ble_eq_true rfl) (Nat.le_of_ble_eq_true rfl) (k _ ?_))))))))))))))))))
  refine ⟨fun p h2 h3 j => ?_, fun p h2 j => ?_, fun p j => h1.2.2.1 p j, fun p j => h1.2.2.2.1 p j, fun p hp => ?_⟩
  · by_cases hin : kB κ + (d0 + 1) ≤ p ∧ p < kB κ + (d0 + 1 + 4)
    · rw [gr_ur, if_neg (by omega), gr_ur, if_neg (by omega), gr_ur, if_neg (by omega), gr_ur, if_neg (by omega), gr_ur, if_neg (by omega)]
      exact h1.1 p hin.1 hin.2 j
    obtain ⟨i, rfl⟩ : ∃ i, p = kB κ + (d0 + i) := ⟨p - kB κ - d0, by omega⟩
    have hc : i = 0 ∨ i = 5 ∨ i = 6 ∨ i = 7 ∨ i = 8 := by omega
    rcases hc with rfl | rfl | rfl | rfl | rfl
    · unfold RT
      rw [show lay κ (kB κ + (d0 + 0)) = (3, 7) from hl0]
      show gr _ (kB κ + d0) j = _
      have hq0 : gr st1 (kB κ + d0) j = none := by
        rw [h1.2.1 _ (by omega) j, (hFr _ (Nat.le_refl _)).2.2]
      rw [gr_ur, gr_ur, gr_ur, gr_ur, gr_ur, hq0]
      by_cases hj : j < 7
      · have hcj : j = 0 ∨ j = 1 ∨ j = 2 ∨ j = 3 ∨ j = 4 ∨ j = 5 ∨ j = 6 := by omega
        rcases hcj with rfl | rfl | rfl | rfl | rfl | rfl | rfl
        · rw [if_neg (by omega), if_neg (by omega), if_neg (by omega), if_neg (by omega), if_pos ⟨rfl, rfl⟩]
          show some _ = some (kB κ + (d0 + 0) + 1)
          congr 1
        · rw [if_neg (by omega), if_neg (by omega), if_neg (by omega), if_pos ⟨rfl, rfl⟩]
          show some _ = some (kB κ + (d0 + 0) + 5)
          congr 1
        · rw [if_neg (by omega), if_neg (by omega), if_pos ⟨rfl, rfl⟩]
          show some _ = some (kB κ + (d0 + 0) + 6)
          congr 1
        · rw [if_neg (by omega), if_pos ⟨rfl, rfl⟩]
          show some _ = some (kB κ + (d0 + 0) + 7)
          congr 1
        · rw [if_pos ⟨rfl, rfl⟩]
          show some _ = some (kB κ + (d0 + 0) + 8)
          congr 1
        · rw [if_neg (by omega), if_neg (by omega), if_neg (by omega), if_neg (by omega), if_neg (by omega)]
          rfl
        · rw [if_neg (by omega), if_neg (by omega), if_neg (by omega), if_neg (by omega), if_neg (by omega)]
          rfl
      · rw [if_neg (by omega), if_neg (by omega), if_neg (by omega), if_neg (by omega), if_neg (by omega)]
        have hft : ft 3 j = 0 := by
          unfold ft
          rw [show ftL.getD 3 [] = [4, 8, 9, 10, 11, 0, 0] from rfl, List.getD_eq_getElem?_getD, List.getElem?_eq_none (by show 7 ≤ j; omega)]
          rfl
        show none = if (3 : Nat) < 50 then _ else _
        rw [if_pos (by decide)]
        show none = (match ft 3 j with | 0 => _ | 1 => _ | 2 => _ | d + 3 => _)
        rw [hft]
    · rw [gr_ur, if_neg (by omega), gr_ur, if_neg (by omega), gr_ur, if_neg (by omega), gr_ur, if_neg (by omega), gr_ur, if_neg (by omega)]
      rw [(hF1 _ (by omega)).2.2]
      unfold RT
      rw [hl 5 50 12 rfl]
      rfl
    · rw [gr_ur, if_neg (by omega), gr_ur, if_neg (by omega), gr_ur, if_neg (by omega), gr_ur, if_neg (by omega), gr_ur, if_neg (by omega)]
      rw [(hF1 _ (by omega)).2.2]
      unfold RT
      rw [hl 6 50 12 rfl]
      rfl
    · rw [gr_ur, if_neg (by omega), gr_ur, if_neg (by omega), gr_ur, if_neg (by omega), gr_ur, if_neg (by omega), gr_ur, if_neg (by omega)]
      rw [(hF1 _ (by omega)).2.2]
      unfold RT
      rw [hl 7 50 12 rfl]
      rfl
    · rw [gr_ur, if_neg (by omega), gr_ur, if_neg (by omega), gr_ur, if_neg (by omega), gr_ur, if_neg (by omega), gr_ur, if_neg (by omega)]
      rw [(hF1 _ (by omega)).2.2]
      unfold RT
      rw [hl 8 50 12 rfl]
      rfl
  · rw [gr_ur, if_neg (by omega), gr_ur, if_neg (by omega), gr_ur, if_neg (by omega), gr_ur, if_neg (by omega), gr_ur, if_neg (by omega)]
    exact h1.2.1 p (by omega) j
  · exact (Fresh.ur (Fresh.ur (Fresh.ur (Fresh.ur (Fresh.ur (hF1.up (d2 := d0 + 9) (by omega)) (by omega)) (by omega)) (by omega)) (by omega)) (by omega)) p hp
theorem c_Ru {κ : Kp} {d0 : Nat} {st : AS} {Q : Option Value → AS → Prop} (hkF : kF κ = false) (hl : LY κ d0 slb7) (hFr : Fresh κ d0 st) (k : ∀ st', CP κ d0 8 st st' → Q none st') : CA κ M_Ru_init (d0 + 1) (d0 + 8) [.ref (kB κ + d0)] st Q := by
  have hl0 := hl 0 7 5 rfl
  have hlc : LY κ (d0 + 1) slb0 := hl.sub (by decide)
  refine CA_of (lv := [some (.ref (kB κ + d0))]) (show plainName "CrumpledSheet$Rule" = true by decide) (Nat.le_of_ble_eq_true rfl) (And.intro rfl trivial) (r_aload_n (i := 0) (show decode prog_9_method_1_code 0 = .ok (.aload_n 0, 1) from by decide +kernel) rfl rfl (ra_objInit (show decode prog_9_method_1_code 1 = .ok (.invokespecial 3, 3) from by decide +kernel) (Tg_of (t1_2 32 rfl) rfl) (Nat.le_of_ble_eq_true rfl) (Nat.le_of_ble_eq_true rfl) ⟨(Tg_of (t1_1 27 rfl) rfl), (Tg_of (t1_1 28 rfl) rfl)⟩ (r_aload_n (i := 0) (show decode prog_9_method_1_code 4 = .ok (.aload_n 0, 1) from by decide +kernel) rfl rfl (cn_new hkF ck0 tyd0 (hFr.up (by omega)) (show decode prog_9_method_1_code 5 = .ok (.new 9, 3) from by decide +kernel) ⟨(Tg_of (t1_2 33 rfl) rfl), (Tg_of (t1_1 36 rfl) rfl), (Tg_of (t1_1 3 rfl) rfl)⟩ (hl 1 0 4 rfl) (by decide) ⟨Nat.le_of_ble_eq_true rfl, Nat.le_of_ble_eq_true rfl⟩ (r_dup (show decode prog_9_method_1_code 8 = .ok (.dup, 1) from by decide +kernel) rfl (ra_invIN (show decode prog_9_method_1_code 9 = .ok (.invokespecial 11, 3) from by decide +kernel) kl_Ru_11 rm_Ru_init_Cd_init (As := []) (rest := [.ref (kB κ + (d0 + 1)), .ref (kB κ + d0)]) rfl rfl (Nat.le_of_ble_eq_true rfl) (by omega) ⟨Nat.le_of_ble_eq_true rfl, Nat.le_of_ble_eq_true rfl⟩ (Q' := fun v st' => v = none ∧ CP κ (d0 + 1) 4 st st') (c_Cd hkF hlc (hFr.up (by omega)) (fun _ h => ⟨rfl, h⟩)) (fun v st1 hh => ?_)))))))
  obtain ⟨rfl, h1⟩ := hh
  have hF1 : Fresh κ (d0 + 5) st1 := h1.2.2.2.2
  have f0 : ∀ {e : Nat}, d0 + 5 ≤ e → Fresh κ e st1 := fun he => by
    have h := hF1.up he
    exact h
  have f1 : ∀ {e : Nat}, d0 + 5 ≤ e → Fresh κ e (ur st1 (kB κ + d0) 0 (some (kB κ + (d0 + 1)))) := fun he => by
    have h := hF1.up he
    exact Fresh.ur (h) (by omega)
  have f2 : ∀ {e : Nat}, d0 + 5 ≤ e → Fresh κ e (ur (ur st1 (kB κ + d0) 0 (some (kB κ + (d0 + 1)))) (kB κ + d0) 1 (some (kB κ + (d0 + 5)))) := fun he => by
    have h := hF1.up he
    exact Fresh.ur (Fresh.ur (h) (by omega)) (by omega)
  have f3 : ∀ {e : Nat}, d0 + 5 ≤ e → Fresh κ e (ur (ur (ur st1 (kB κ + d0) 0 (some (kB κ + (d0 + 1)))) (kB κ + d0) 1 (some (kB κ + (d0 + 5)))) (kB κ + d0) 2 (some (kB κ + (d0 + 6)))) := fun he => by
    have h := hF1.up he
    exact Fresh.ur (Fresh.ur (Fresh.ur (h) (by omega)) (by omega)) (by omega)
  show VA κ M_Ru_init _ Q _ _ _ 12 _ [.ref (kB κ + (d0 + 1)), .ref (kB κ + d0)] st1
  refine cp_put hkF ck7 (show decode prog_9_method_1_code 12 = .ok (.putfield 12, 3) from by decide +kernel) ⟨by omega, by omega⟩ (hl 0 7 5 rfl) (by decide) (j := 0) (by decide) (Tg_of (t1_2 35 rfl) rfl) (by decide) rfl rfl rfl rfl (r_aload_n (i := 0) (show decode prog_9_method_1_code 15 = .ok (.aload_n 0, 1) from by decide +kernel) rfl rfl (r_bipush (v := 12) (show decode prog_9_method_1_code 16 = .ok (.bipush 12, 2) from by decide +kernel) (by decide) (cn_arr (ak := 0) (f1 (by omega)) (show decode prog_9_method_1_code 18 = .ok (.newarray .int, 2) from by decide +kernel) rfl (Tg_of (t1_1 54 rfl) rfl) (hl 5 50 12 rfl) (by decide) (by decide) (by decide) (by decide) rfl ⟨Nat.le_of_ble_eq_true rfl, Nat.le_of_ble_eq_true rfl⟩ (cp_put hkF ck7 (show decode prog_9_method_1_code 20 = .ok (.putfield 18, 3) from by decide +kernel) ⟨by omega, by omega⟩ (hl 0 7 5 rfl) (by decide) (j := 1) (by decide) (Tg_of (t1_2 36 rfl) rfl) (by decide) rfl rfl rfl rfl (r_aload_n (i := 0) (show decode prog_9_method_1_code 23 = .ok (.aload_n 0, 1) from by decide +kernel) rfl rfl (r_bipush (v := 12) (show decode prog_9_method_1_code 24 = .ok (.bipush 12, 2) from by decide +kernel) (by decide) (cn_arr (ak := 0) (f2 (by omega)) (show decode prog_9_method_1_code 26 = .ok (.newarray .int, 2) from by decide +kernel) rfl (Tg_of (t1_1 54 rfl) rfl) (hl 6 50 12 rfl) (by decide) (by decide) (by decide) (by decide) rfl ⟨Nat.le_of_ble_eq_true rfl, Nat.le_of_ble_eq_true rfl⟩ (cp_put hkF ck7 (show decode prog_9_method_1_code 28 = .ok (.putfield 22, 3) from by decide +kernel) ⟨by omega, by omega⟩ (hl 0 7 5 rfl) (by decide) (j := 2) (by decide) (Tg_of (t1_2 37 rfl) rfl) (by decide) rfl rfl rfl rfl (r_aload_n (i := 0) (show decode prog_9_method_1_code 31 = .ok (.aload_n 0, 1) from by decide +kernel) rfl rfl (r_bipush (v := 12) (show decode prog_9_method_1_code 32 = .ok (.bipush 12, 2) from by decide +kernel) (by decide) (cn_arr (ak := 0) (f3 (by omega)) (show decode prog_9_method_1_code 34 = .ok (.newarray .int, 2) from by decide +kernel) rfl (Tg_of (t1_1 54 rfl) rfl) (hl 7 50 12 rfl) (by decide) (by decide) (by decide) (by decide) rfl ⟨Nat.le_of_ble_eq_true rfl, Nat.le_of_ble_eq_true rfl⟩ (cp_put hkF ck7 (show decode prog_9_method_1_code 36 = .ok (.putfield 25, 3) from by decide +kernel) ⟨by omega, by omega⟩ (hl 0 7 5 rfl) (by decide) (j := 3) (by decide) (Tg_of (t1_2 38 rfl) rfl) (by decide) rfl rfl rfl rfl (r_vreturn (show decode prog_9_method_1_code 39 = .ok (.return_, 1) from by decide +kernel) rfl (Nat.le_of_ble_eq_true rfl) (Nat.le_of_ble_eq_true rfl) (k _ ?_))))))))))))))
  refine ⟨fun p h2 h3 j => ?_, fun p h2 j => ?_, fun p j => h1.2.2.1 p j, fun p j => h1.2.2.2.1 p j, fun p hp => ?_⟩
  · by_cases hin : kB κ + (d0 + 1) ≤ p ∧ p < kB κ + (d0 + 1 + 4)
    · rw [gr_ur, if_neg (by omega), gr_ur, if_neg (by omega), gr_ur, if_neg (by omega), gr_ur, if_neg (by omega)]
      exact h1.1 p hin.1 hin.2 j
    obtain ⟨i, rfl⟩ : ∃ i, p = kB κ + (d0 + i) := ⟨p - kB κ - d0, by omega⟩
    have hc : i = 0 ∨ i = 5 ∨ i = 6 ∨ i = 7 := by omega
    rcases hc with rfl | rfl | rfl | rfl
    · unfold RT
      rw [show lay κ (kB κ + (d0 + 0)) = (7, 5) from hl0]
      show gr _ (kB κ + d0) j = _
      have hq0 : gr st1 (kB κ + d0) j = none := by
        rw [h1.2.1 _ (by omega) j, (hFr _ (Nat.le_refl _)).2.2]
      rw [gr_ur, gr_ur, gr_ur, gr_ur, hq0]
      by_cases hj : j < 5
      · have hcj : j = 0 ∨ j = 1 ∨ j = 2 ∨ j = 3 ∨ j = 4 := by omega
        rcases hcj with rfl | rfl | rfl | rfl | rfl
        · rw [if_neg (by omega), if_neg (by omega), if_neg (by omega), if_pos ⟨rfl, rfl⟩]
          show some _ = some (kB κ + (d0 + 0) + 1)
          congr 1
        · rw [if_neg (by omega), if_neg (by omega), if_pos ⟨rfl, rfl⟩]
          show some _ = some (kB κ + (d0 + 0) + 5)
          congr 1
        · rw [if_neg (by omega), if_pos ⟨rfl, rfl⟩]
          show some _ = some (kB κ + (d0 + 0) + 6)
          congr 1
        · rw [if_pos ⟨rfl, rfl⟩]
          show some _ = some (kB κ + (d0 + 0) + 7)
          congr 1
        · rw [if_neg (by omega), if_neg (by omega), if_neg (by omega), if_neg (by omega)]
          rfl
      · rw [if_neg (by omega), if_neg (by omega), if_neg (by omega), if_neg (by omega)]
        have hft : ft 7 j = 0 := by
          unfold ft
          rw [show ftL.getD 7 [] = [4, 8, 9, 10, 0] from rfl, List.getD_eq_getElem?_getD, List.getElem?_eq_none (by show 5 ≤ j; omega)]
          rfl
        show none = if (7 : Nat) < 50 then _ else _
        rw [if_pos (by decide)]
        show none = (match ft 7 j with | 0 => _ | 1 => _ | 2 => _ | d + 3 => _)
        rw [hft]
    · rw [gr_ur, if_neg (by omega), gr_ur, if_neg (by omega), gr_ur, if_neg (by omega), gr_ur, if_neg (by omega)]
      rw [(hF1 _ (by omega)).2.2]
      unfold RT
      rw [hl 5 50 12 rfl]
      rfl
    · rw [gr_ur, if_neg (by omega), gr_ur, if_neg (by omega), gr_ur, if_neg (by omega), gr_ur, if_neg (by omega)]
      rw [(hF1 _ (by omega)).2.2]
      unfold RT
      rw [hl 6 50 12 rfl]
      rfl
    · rw [gr_ur, if_neg (by omega), gr_ur, if_neg (by omega), gr_ur, if_neg (by omega), gr_ur, if_neg (by omega)]
      rw [(hF1 _ (by omega)).2.2]
      unfold RT
      rw [hl 7 50 12 rfl]
      rfl
  · rw [gr_ur, if_neg (by omega), gr_ur, if_neg (by omega), gr_ur, if_neg (by omega), gr_ur, if_neg (by omega)]
    exact h1.2.1 p (by omega) j
  · exact (Fresh.ur (Fresh.ur (Fresh.ur (Fresh.ur (hF1.up (d2 := d0 + 8) (by omega)) (by omega)) (by omega)) (by omega)) (by omega)) p hp
theorem c_Rd {κ : Kp} {d0 : Nat} {r1 : Nat} {st : AS} {Q : Option Value → AS → Prop} (hkF : kF κ = false) (hl : LY κ d0 slb6) (hFr : Fresh κ d0 st) (hv : r1 = kB κ + 1) (hd2 : d0 = 2) (k : ∀ st', CP κ d0 5 st st' → Q none st') : CA κ M_Rd_init (d0 + 1) (d0 + 5) [.ref (kB κ + d0), .ref r1] st Q := by
  have hl0 := hl 0 6 7 rfl
  have hlc : LY κ (d0 + 1) slb0 := hl.sub (by decide)
  refine CA_of (lv := [some (.ref (kB κ + d0)), some (.ref r1)]) (show plainName "CrumpledSheet$Reader" = true by decide) (Nat.le_of_ble_eq_true rfl) (And.intro rfl (And.intro rfl trivial)) (r_aload_n (i := 0) (show decode prog_8_method_1_code 0 = .ok (.aload_n 0, 1) from by decide +kernel) rfl rfl (ra_objInit (show decode prog_8_method_1_code 1 = .ok (.invokespecial 3, 3) from by decide +kernel) (Tg_of (t1_1 34 rfl) rfl) (Nat.le_of_ble_eq_true rfl) (Nat.le_of_ble_eq_true rfl) ⟨(Tg_of (t1_1 27 rfl) rfl), (Tg_of (t1_1 28 rfl) rfl)⟩ (r_aload_n (i := 0) (show decode prog_8_method_1_code 4 = .ok (.aload_n 0, 1) from by decide +kernel) rfl rfl (cn_new hkF ck0 tyd0 (hFr.up (by omega)) (show decode prog_8_method_1_code 5 = .ok (.new 9, 3) from by decide +kernel) ⟨(Tg_of (t1_1 35 rfl) rfl), (Tg_of (t1_1 36 rfl) rfl), (Tg_of (t1_1 3 rfl) rfl)⟩ (hl 1 0 4 rfl) (by decide) ⟨Nat.le_of_ble_eq_true rfl, Nat.le_of_ble_eq_true rfl⟩ (r_dup (show decode prog_8_method_1_code 8 = .ok (.dup, 1) from by decide +kernel) rfl (ra_invIN (show decode prog_8_method_1_code 9 = .ok (.invokespecial 11, 3) from by decide +kernel) kl_Rd_11 rm_Rd_init_Cd_init (As := []) (rest := [.ref (kB κ + (d0 + 1)), .ref (kB κ + d0)]) rfl rfl (Nat.le_of_ble_eq_true rfl) (by omega) ⟨Nat.le_of_ble_eq_true rfl, Nat.le_of_ble_eq_true rfl⟩ (Q' := fun v st' => v = none ∧ CP κ (d0 + 1) 4 st st') (c_Cd hkF hlc (hFr.up (by omega)) (fun _ h => ⟨rfl, h⟩)) (fun v st1 hh => ?_)))))))
  obtain ⟨rfl, h1⟩ := hh
  have hF1 : Fresh κ (d0 + 5) st1 := h1.2.2.2.2
  have f0 : ∀ {e : Nat}, d0 + 5 ≤ e → Fresh κ e st1 := fun he => by
    have h := hF1.up he
    exact h
  have f1 : ∀ {e : Nat}, d0 + 5 ≤ e → Fresh κ e (ur st1 (kB κ + d0) 5 (some (kB κ + (d0 + 1)))) := fun he => by
    have h := hF1.up he
    exact Fresh.ur (h) (by omega)
  have f2 : ∀ {e : Nat}, d0 + 5 ≤ e → Fresh κ e (ur (ur st1 (kB κ + d0) 5 (some (kB κ + (d0 + 1)))) (kB κ + d0) 6 (some (kK κ 0))) := fun he => by
    have h := hF1.up he
    exact Fresh.ur (Fresh.ur (h) (by omega)) (by omega)
  show VA κ M_Rd_init _ Q _ _ _ 12 _ [.ref (kB κ + (d0 + 1)), .ref (kB κ + d0)] st1
  refine cp_put hkF ck6 (show decode prog_8_method_1_code 12 = .ok (.putfield 12, 3) from by decide +kernel) ⟨by omega, by omega⟩ (hl 0 6 7 rfl) (by decide) (j := 5) (by decide) (Tg_of (t1_1 62 rfl) rfl) (by decide) rfl rfl rfl rfl (r_aload_n (i := 0) (show decode prog_8_method_1_code 15 = .ok (.aload_n 0, 1) from by decide +kernel) rfl rfl (ra_ldcS (i := 0) rfl (by decide) rfl (show decode prog_8_method_1_code 16 = .ok (.ldc 18, 2) from by decide +kernel) (cp_put hkF ck6 (show decode prog_8_method_1_code 18 = .ok (.putfield 20, 3) from by decide +kernel) ⟨by omega, by omega⟩ (hl 0 6 7 rfl) (by decide) (j := 6) (by decide) (Tg_of (t1_1 63 rfl) rfl) (by decide) rfl rfl rfl rfl (r_aload_n (i := 0) (show decode prog_8_method_1_code 21 = .ok (.aload_n 0, 1) from by decide +kernel) rfl rfl (r_aload_n (i := 1) (show decode prog_8_method_1_code 22 = .ok (.aload_n 1, 1) from by decide +kernel) rfl rfl (cp_put hkF ck6 (show decode prog_8_method_1_code 23 = .ok (.putfield 24, 3) from by decide +kernel) ⟨by omega, by omega⟩ (hl 0 6 7 rfl) (by decide) (j := 0) (by decide) (Tg_of (t1_1 57 rfl) rfl) (by decide) rfl rfl rfl rfl (r_vreturn (show decode prog_8_method_1_code 26 = .ok (.return_, 1) from by decide +kernel) rfl (Nat.le_of_ble_eq_true rfl) (Nat.le_of_ble_eq_true rfl) (k _ ?_))))))))
  refine ⟨fun p h2 h3 j => ?_, fun p h2 j => ?_, fun p j => h1.2.2.1 p j, fun p j => h1.2.2.2.1 p j, fun p hp => ?_⟩
  · by_cases hin : kB κ + (d0 + 1) ≤ p ∧ p < kB κ + (d0 + 1 + 4)
    · rw [gr_ur, if_neg (by omega), gr_ur, if_neg (by omega), gr_ur, if_neg (by omega)]
      exact h1.1 p hin.1 hin.2 j
    obtain ⟨i, rfl⟩ : ∃ i, p = kB κ + (d0 + i) := ⟨p - kB κ - d0, by omega⟩
    have hc : i = 0 := by omega
    rcases hc with rfl
    · unfold RT
      rw [show lay κ (kB κ + (d0 + 0)) = (6, 7) from hl0]
      show gr _ (kB κ + d0) j = _
      have hq0 : gr st1 (kB κ + d0) j = none := by
        rw [h1.2.1 _ (by omega) j, (hFr _ (Nat.le_refl _)).2.2]
      rw [gr_ur, gr_ur, gr_ur, hq0]
      by_cases hj : j < 7
      · have hcj : j = 0 ∨ j = 1 ∨ j = 2 ∨ j = 3 ∨ j = 4 ∨ j = 5 ∨ j = 6 := by omega
        rcases hcj with rfl | rfl | rfl | rfl | rfl | rfl | rfl
        · rw [if_pos ⟨rfl, rfl⟩]
          rw [hv]
          rfl
        · rw [if_neg (by omega), if_neg (by omega), if_neg (by omega)]
          rfl
        · rw [if_neg (by omega), if_neg (by omega), if_neg (by omega)]
          rfl
        · rw [if_neg (by omega), if_neg (by omega), if_neg (by omega)]
          rfl
        · rw [if_neg (by omega), if_neg (by omega), if_neg (by omega)]
          rfl
        · rw [if_neg (by omega), if_neg (by omega), if_pos ⟨rfl, rfl⟩]
          show some (kB κ + (d0 + 1)) = some (kB κ + 3)
          rw [hd2]
        · rw [if_neg (by omega), if_pos ⟨rfl, rfl⟩]
          rfl
      · rw [if_neg (by omega), if_neg (by omega), if_neg (by omega)]
        have hft : ft 6 j = 0 := by
          unfold ft
          rw [show ftL.getD 6 [] = [2, 0, 0, 0, 0, 2, 2] from rfl, List.getD_eq_getElem?_getD, List.getElem?_eq_none (by show 7 ≤ j; omega)]
          rfl
        show none = if (6 : Nat) < 50 then _ else _
        rw [if_pos (by decide)]
        show none = (match ft 6 j with | 0 => _ | 1 => _ | 2 => _ | d + 3 => _)
        rw [hft]
  · rw [gr_ur, if_neg (by omega), gr_ur, if_neg (by omega), gr_ur, if_neg (by omega)]
    exact h1.2.1 p (by omega) j
  · exact (Fresh.ur (Fresh.ur (Fresh.ur (hF1.up (d2 := d0 + 5) (by omega)) (by omega)) (by omega)) (by omega)) p hp
