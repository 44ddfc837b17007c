/-! doing texts and strips whole -/
section Whole5
variable {κ : Ko} {a ta n q a1 c A iw : Nat} {T : Nat → Nat}
theorem do_dv {s1 s2 : AS} (h : Same (doW a a1) s1 s2) : Same (dvW a a1 4) s1 s2 := h.mono (fun _ _ z => by unfold doW rdW dgW at z; unfold dvW rdX; omega)
theorem TX_do (hca : ta < a ∧ a + 4 < a1) (hcc : c < 6) {ds rs : AS} (hT : TD0 κ ds a ta n T) (h5 : gr ds a 5 = some A) (hw : gr ds a 6 = some (kK (kt κ) iw)) (hq : TQ rs q n T) (h2 : gi rs (q + 2) 1 = nI c) :
    ∃ F ds' rs', F < 4000 ∧ f_Rd_readDoing κ a a1 (nI n) ds = some (nI F, ds') ∧ txP κ q (nI 1) rs = some ((if F = 0 then nI c else -2 - nI F), rs') ∧ gr ds' a 0 = some ta ∧ gr ds' a 5 = some A ∧ gr ds' a 6 = some (kK (kt κ) iw) ∧ (F = 0 → DOSR ds' rs' a1 q (6 + c)) ∧ gi rs' q 1 = 0 ∧ (∀ i, gi rs' (q + 2) i = if F = 0 ∧ i = 1 then nI (c + 1) else gi rs (q + 2) i) ∧ Same (dvW a a1 4) ds ds' ∧ Same (txW q (6 + c)) rs rs' := by
  have hta : ta < a := hca.1
  have hn := hT.2.2.1
  obtain ⟨hO, wO⟩ := d_open (κ := κ) hT
  obtain ⟨S, eS, hRS, h17, h6, h7, wS⟩ := r_opens0 (κ := κ) (s := 1) (c := c) (t := 6 + c) (by decide) hcc (by omega) hq h2
  rw [readDoing_w, eS, clausesHere_w]
  have g5 : gr (f_Rd_open κ a (nI n) ds) a 5 = some A := by unfold f_Rd_open; exact h5
  have g6 : gr (f_Rd_open κ a (nI n) ds) a 6 = some (kK (kt κ) iw) := by unfold f_Rd_open; exact hw
  generalize f_Rd_open κ a (nI n) ds = s0 at *
  have wC : Same (dvW a a1 4) s0 (ui s0 a1 4 0) := (Same.rf _ _).ui (by unfold dvW; omega)
  have c4_ : gi (ui s0 a1 4 0) a1 4 = nI 0 := by rw [gi_ui, if_pos ⟨rfl, rfl⟩]; rfl
  have hO1 := hO.gen ((Same.rf (fun p _ => a1 ≤ p) s0).ui (p := a1) (j := 4) (v := 0) (Nat.le_refl _)) (fun j _ z => by omega) (fun j z => by omega)
  have hD : DR κ (ui s0 a1 4 0) a ta A iw n T 0 0 0 := ⟨hO1, g5, g6⟩
  generalize ui s0 a1 4 0 = s1 at *
  have hL : DOS κ s1 S a ta A iw a1 q (6 + c) n T 0 0 0 0 [] := ⟨hD, hRS, rfl, ⟨c4_, Nat.zero_le _, fun k hk => absurd hk (Nat.not_lt_zero _)⟩, ⟨h6, Nat.zero_le _, fun k hk => absurd hk (Nat.not_lt_zero _)⟩, fun x hx => (nomatch hx)⟩
  have w0 : Same (dvW a a1 4) ds s1 := (wO.mono (fun _ _ z => Or.inl z)).tr wC
  have wS' : Same (txW q (6 + c)) rs S := X_tx wS
  have hS2 : ∀ i, gi S (q + 2) i = gi rs (q + 2) i := fun i => (wS _ _ (fun z => by unfold rtX rtW pbW cqW ckW at z; omega)).1
  rcases E_doL hca ⟨by omega, by omega⟩ (kdC κ) kqC 0 0 _ 0 0 FU FU 0 [] _ _ rfl hL h17 (Nat.zero_le _) (Nat.zero_le _) (by unfold FU; omega) (by unfold FU; omega) with ⟨ds1, rs1, pd, pr, K, e1, e2, ⟨hD1, hR1, hsk, hKD, hKQ, hdo⟩, v1, v2⟩ | ⟨ds1, rs1, F, e1, hF, e2, e12, v1, v2⟩
  · have g2 : ∀ i, gi rs1 (q + 2) i = gi rs (q + 2) i := fun i => by rw [(v2 _ _ (fun z => by unfold rtY rtW pbW cqW ckW at z; omega)).1]; exact hS2 i
    obtain ⟨F, ds2, rs2, t1, t2, t3, t4, t5, t6, t7, t8⟩ := T_good (κ := κ) (s := 1) (c := c) hD1 hR1.1 hsk (by decide) hcc (by rw [g2]; exact h2) (fun z => (nomatch z))
    refine ⟨F, ds2, rs2, t1, by rw [e1, t2], by rw [e2, kq1, bnd2_t, t3], ?_, ?_, ?_, fun hz => ?_, t4, fun i => by rw [t5, g2], (w0.tr (do_dv v1)).tr (rd_dv t6), (wS'.tr (Y_tx v2)).tr (en_tx t7 (by omega))⟩
    · rw [(t6 _ _ (fun z => by unfold rdW at z; omega)).2.2]; exact hD1.1.1.1
    · rw [(t6 _ _ (fun z => by unfold rdW at z; omega)).2.2]; exact hD1.2.1
    · rw [(t6 _ _ (fun z => by unfold rdW at z; omega)).2.2]; exact hD1.2.2
    · exact ⟨K, hKD.of t6 (fun j d _ z => by unfold rdW at z; omega), hKQ.of t7 (fun z => by unfold enW rqW at z; omega) (fun j _ z => by unfold enW rqW at z; omega), hdo⟩
  · have g2 : ∀ i, gi rs1 (q + 2) i = gi rs (q + 2) i := fun i => by rw [(v2 _ _ (fun z => by unfold rtY rtW pbW cqW ckW at z; omega)).1]; exact hS2 i
    obtain ⟨ds2, rs2, t1, t0, t2, t3, t4, t5, t6, t7⟩ := T_bad (κ := κ) hF e12 1 c
    obtain ⟨-, p', m', hD'⟩ := hF
    refine ⟨F, ds2, rs2, t1, by rw [e1, t2], by rw [e2, kq0, bnd2_t, t3, if_neg t0], ?_, ?_, ?_, fun hz => absurd hz t0, t4, fun i => by rw [t5, g2, if_neg (fun z => t0 z.1)], (w0.tr (do_dv v1)).tr (rd_dv t6), (wS'.tr (Y_tx v2)).tr (en_tx t7 (by omega))⟩
    · rw [(t6 _ _ (fun z => by unfold rdW at z; omega)).2.2]; exact hD'.1.1.1
    · rw [(t6 _ _ (fun z => by unfold rdW at z; omega)).2.2]; exact hD'.2.1
    · rw [(t6 _ _ (fun z => by unfold rdW at z; omega)).2.2]; exact hD'.2.2
end Whole5
