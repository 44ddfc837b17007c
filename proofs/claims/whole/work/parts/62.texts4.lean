/-! rule texts whole -/
section Whole4
variable {κ : Ko} {a ta n q a1 c : Nat} {T : Nat → Nat}
theorem ru_dv {s1 s2 : AS} (h : Same (ruleW a a1) s1 s2) : Same (dvW a a1 7) s1 s2 := h.mono (fun _ _ z => by unfold ruleW pdW rdW cdW ruW at z; unfold dvW rdX; omega)
theorem TX_rule (hc : PC κ a ta (a1 + 1) (12 + c) 9) (hca : a + 4 < a1) (hcc : c < 6) {ds rs : AS} (hT : TD0 κ ds a ta n T) (hq : TQ rs q n T) (h2 : gi rs (q + 2) 2 = nI c) :
    ∃ F ds' rs', F < 4000 ∧ f_Rd_readRule κ a a1 (nI n) ds = some (nI F, ds') ∧ txP κ q (nI 2) rs = some ((if F = 0 then nI c else -2 - nI F), rs') ∧ gr ds' a 0 = some ta ∧ gr ds' a 5 = some (a1 + 1) ∧ gr ds' a 6 = some (kK (kt κ) 9) ∧ (F = 0 → RULR ds' rs' a1 q (12 + c)) ∧ gi rs' q 1 = 0 ∧ (∀ i, gi rs' (q + 2) i = if F = 0 ∧ i = 2 then nI (c + 1) else gi rs (q + 2) i) ∧ Same (dvW a a1 7) ds ds' ∧ Same (txW q (12 + c)) rs rs' := by
  have hta : ta < a := hc.1
  have hn := hT.2.2.1
  obtain ⟨hO, wO⟩ := d_open (κ := κ) hT
  obtain ⟨S, eS, hRS, h17, h6, h7, wS⟩ := r_opens0 (κ := κ) (s := 2) (c := c) (t := 12 + c) (by decide) hcc (by omega) hq h2
  rw [readRule_w, grd_t hc.2.2.1, show (0 : Int32) = nI 0 from rfl, eS, clausesHere_w]
  generalize f_Rd_open κ a (nI n) ds = s0 at *
  have wC : Same (dvW a a1 7) s0 (ui (ui s0 (a1 + 1) 3 (nI 0)) a1 4 (nI 0)) := ((Same.rf _ _).ui (by unfold dvW; omega)).ui (by unfold dvW; omega)
  have c3 : gi (ui (ui s0 (a1 + 1) 3 (nI 0)) a1 4 (nI 0)) (a1 + 1) 3 = nI 0 := by rw [gi_ui, if_neg (fun z => by omega), gi_ui, if_pos ⟨rfl, rfl⟩]
  have c5 : gi (ui (ui s0 (a1 + 1) 3 (nI 0)) a1 4 (nI 0)) a1 4 = nI 0 := by rw [gi_ui, if_pos ⟨rfl, rfl⟩]
  have hO1 := hO.gen (((Same.rf (fun p _ => a1 ≤ p) s0).ui (p := a1 + 1) (j := 3) (v := nI 0) (by omega)).ui (p := a1) (j := 4) (v := nI 0) (Nat.le_refl _)) (fun j _ z => by omega) (fun j z => by omega)
  generalize ui (ui s0 (a1 + 1) 3 (nI 0)) a1 4 (nI 0) = s1 at *
  have w5 : Same (fun p j => p = a ∧ 5 ≤ j ∧ j ≤ 6) s1 (ur (ur s1 a 5 (some (a1 + 1))) a 6 (some (kK (kt κ) 9))) := ((Same.rf _ _).ur ⟨rfl, by decide, by decide⟩).ur ⟨rfl, by decide, by decide⟩
  have hD : DR κ (ur (ur s1 a 5 (some (a1 + 1))) a 6 (some (kK (kt κ) 9))) a ta (a1 + 1) 9 n T 0 0 0 := ⟨hO1.gen w5 (fun j hj z => by omega) (fun j z => by omega), by rw [gr_ur, if_neg (fun z => by omega), gr_ur, if_pos ⟨rfl, rfl⟩], by rw [gr_ur, if_pos ⟨rfl, rfl⟩]⟩
  have w5' : Same (dvW a a1 7) s1 (ur (ur s1 a 5 (some (a1 + 1))) a 6 (some (kK (kt κ) 9))) := w5.mono (fun _ _ z => Or.inl ⟨z.1, by omega, by omega⟩)
  have hL : RULS κ (ur (ur s1 a 5 (some (a1 + 1))) a 6 (some (kK (kt κ) 9))) S a ta a1 q (12 + c) n T 0 0 0 [] [] := by
    refine ⟨⟨⟨hD, c3, Nat.zero_le _, fun k hk => absurd hk (Nat.not_lt_zero _)⟩, hRS, rfl, Nat.zero_le _, fun x hx => (nomatch hx), Nat.zero_le _⟩, ⟨c5, Nat.zero_le _, fun k hk => absurd hk (Nat.not_lt_zero _)⟩, ⟨h6, Nat.zero_le _, fun k hk => absurd hk (Nat.not_lt_zero _)⟩, fun x hx => (nomatch hx), Nat.zero_le _⟩
  have w0 : Same (dvW a a1 7) ds (ur (ur s1 a 5 (some (a1 + 1))) a 6 (some (kK (kt κ) 9))) := ((wO.mono (fun _ _ z => Or.inl z)).tr wC).tr w5'
  have wS' : Same (txW q (12 + c)) rs S := X_tx wS
  have hS2 : ∀ i, gi S (q + 2) i = gi rs (q + 2) i := fun i => (wS _ _ (fun z => by unfold rtX rtW pbW cqW ckW at z; omega)).1
  rcases E_ruleL hc ⟨by omega, by omega⟩ hca (kdC κ) kqC _ 0 0 0 FU FU 0 [] [] _ _ rfl hL h17 (Nat.zero_le _) (Nat.zero_le _) (by unfold FU; omega) (by unfold FU; omega) with ⟨ds1, rs1, pd, pr, m, L, K, e1, e2, ⟨h1, hKD, hKQ, hlw, hll⟩, v1, v2⟩ | ⟨ds1, rs1, F, e1, hF, e2, e12, v1, v2⟩
  · have g2 : ∀ i, gi rs1 (q + 2) i = gi rs (q + 2) i := fun i => by rw [(v2 _ _ (fun z => by unfold rtY rtW pbW cqW ckW at z; omega)).1]; exact hS2 i
    obtain ⟨F, ds2, rs2, t1, t2, t3, t4, t5, t6, t7, t8⟩ := T_good (κ := κ) (s := 2) (c := c) h1.1.1 h1.2.1.1 h1.2.2.1 (by decide) hcc (by rw [g2]; exact h2) (fun z => (nomatch z))
    refine ⟨F, ds2, rs2, t1, by rw [e1, t2], by rw [e2, kq1, bnd2_t, t3], ?_, ?_, ?_, fun hz => ?_, t4, fun i => by rw [t5, g2], (w0.tr (ru_dv v1)).tr (rd_dv t6), (wS'.tr (Y_tx v2)).tr (en_tx t7 (by omega))⟩
    · rw [(t6 _ _ (fun z => by unfold rdW at z; omega)).2.2]; exact h1.1.1.1.1.1
    · rw [(t6 _ _ (fun z => by unfold rdW at z; omega)).2.2]; exact h1.1.1.2.1
    · rw [(t6 _ _ (fun z => by unfold rdW at z; omega)).2.2]; exact h1.1.1.2.2
    · refine ⟨L, K, h1.1.2.of t6 (fun z => by unfold rdW at z; omega) (fun j z => by unfold rdW at z; omega) (fun j z => by unfold rdW at z; omega), h1.2.1.2.2.of t7 (fun z => by unfold enW rqW at z; omega) (fun j z => by unfold enW rqW at z; omega), hKD.of t6 (fun z => by unfold rdW at z; omega) (fun j d _ _ z => by unfold rdW at z; omega), hKQ.of t7 (fun z => by unfold enW rqW at z; omega) (fun j _ z => by unfold enW rqW at z; omega), hlw, h1.2.2.2.2.1, ?_⟩
      · have := h1.2.2.2.1; have := h1.2.2.2.2.2; omega
  · have g2 : ∀ i, gi rs1 (q + 2) i = gi rs (q + 2) i := fun i => by rw [(v2 _ _ (fun z => by unfold rtY rtW pbW cqW ckW at z; omega)).1]; exact hS2 i
    obtain ⟨ds2, rs2, t1, t0, t2, t3, t4, t5, t6, t7⟩ := T_bad (κ := κ) hF e12 2 c
    obtain ⟨-, p', m', hD'⟩ := hF
    refine ⟨F, ds2, rs2, t1, by rw [e1, t2], by rw [e2, kq0, bnd2_t, t3, if_neg t0], ?_, ?_, ?_, fun hz => absurd hz t0, t4, fun i => by rw [t5, g2, if_neg (fun z => t0 z.1)], (w0.tr (ru_dv v1)).tr (rd_dv t6), (wS'.tr (Y_tx v2)).tr (en_tx t7 (by omega))⟩
    · rw [(t6 _ _ (fun z => by unfold rdW at z; omega)).2.2]; exact hD'.1.1.1
    · rw [(t6 _ _ (fun z => by unfold rdW at z; omega)).2.2]; exact hD'.2.1
    · rw [(t6 _ _ (fun z => by unfold rdW at z; omega)).2.2]; exact hD'.2.2
end Whole4
