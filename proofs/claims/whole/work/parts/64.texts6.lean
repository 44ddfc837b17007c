/-! strips whole -/
def srW (q k p j : Nat) : Prop := rsW q k p j ∨ p = q ∧ 11 ≤ j ∧ j ≤ 17 ∨ p = q ∧ j = 1 ∨ p = q + 2
section Whole6
variable {κ : Ko} {a ta n q a1 c A iw : Nat} {T : Nat → Nat}
theorem st_dv {s1 s2 : AS} (h : Same (stpW a a1) s1 s2) : Same (dvW a a1 2) s1 s2 := h.mono (fun _ _ z => by unfold stpW rdW spW at z; unfold dvW rdX; omega)
theorem rs_sr {s1 s2 : AS} (h : Same (rsW q c) s1 s2) : Same (srW q c) s1 s2 := h.mono (fun _ _ z => Or.inl z)
theorem en_sr {s1 s2 : AS} (h : Same (enW q 3 c) s1 s2) : Same (srW q c) s1 s2 := h.mono (fun _ _ z => by unfold enW rqW at z; unfold srW rsW rqW; omega)
theorem r_opens3 {rs : AS} (hc : c < 6) (hq : TQ rs q n T) (h2 : gi rs (q + 2) 3 = nI c) : ∃ S, txP κ q (nI 3) rs = bnd2 (f_R_stripHere κ q (nI c) S) (fun v s1 => txJ κ q (nI 3) v s1) ∧ RQ S q n T 0 0 0 ∧ Same (srW q c) rs S ∧ ∀ i, gi S (q + 2) i = gi rs (q + 2) i := by
  have hn := hq.2.1
  have w1 : Same (srW q c) rs (ui (ui (ui (ui (ui rs q 14 ((6 : Int32) * nI 3 + nI c)) q 17 0) q 11 0) q 12 0) q 15 0) := (((((Same.rf _ _).ui (by unfold srW; omega)).ui (by unfold srW; omega)).ui (by unfold srW; omega)).ui (by unfold srW; omega)).ui (by unfold srW; omega)
  have e2 : gi (ui (ui (ui (ui (ui rs q 14 ((6 : Int32) * nI 3 + nI c)) q 17 0) q 11 0) q 12 0) q 15 0) (q + 2) 3 = nI c := by rw [gi_ui, if_neg (fun z => by omega), gi_ui, if_neg (fun z => by omega), gi_ui, if_neg (fun z => by omega), gi_ui, if_neg (fun z => by omega), gi_ui, if_neg (fun z => by omega)]; exact h2
  have hTQ : TQ (ui (ui (ui (ui (ui rs q 14 ((6 : Int32) * nI 3 + nI c)) q 17 0) q 11 0) q 12 0) q 15 0) q n T := by
    have w2 : Same (fun p j => p = q ∧ 11 ≤ j) rs (ui (ui (ui (ui (ui rs q 14 ((6 : Int32) * nI 3 + nI c)) q 17 0) q 11 0) q 12 0) q 15 0) := (((((Same.rf _ _).ui (by omega)).ui (by omega)).ui (by omega)).ui (by omega)).ui (by omega)
    exact hq.gen w2 (fun z => by omega) (fun j z => by omega)
  refine ⟨_, ?_, ⟨hTQ, ?_, Nat.zero_le _, ?_, ?_⟩, w1, fun i => ?_⟩
  · unfold txP txN txM
    rw [grd_t (vp_in_nI (show 3 < 4 by decide) (by decide)), if_pos (show (3 : Int32) ≤ nI 3 by decide), if_neg (show ¬ nI 3 = 0 by decide), if_pos (show nI 3 = 3 from rfl), grd_t (vp_n (x := 3) (n := 3) (N := 4) rfl (by decide) (by decide)), show (nI 3).toNatClampNeg = 3 from rfl, show (3 : Int32).toNatClampNeg = 3 from rfl, h2, e2]
  · rw [gi_ui, if_neg (fun z => by omega), gi_ui, if_neg (fun z => by omega), gi_ui, if_pos ⟨rfl, rfl⟩]; rfl
  · rw [gi_ui, if_neg (fun z => by omega), gi_ui, if_pos ⟨rfl, rfl⟩]
  · rw [gi_ui, if_pos ⟨rfl, rfl⟩]
  · rw [gi_ui, if_neg (fun z => by omega), gi_ui, if_neg (fun z => by omega), gi_ui, if_neg (fun z => by omega), gi_ui, if_neg (fun z => by omega), gi_ui, if_neg (fun z => by omega)]
theorem FUd : ∃ d, FU = d + 2 := ⟨FU - 2, by have : 2 ≤ FU := by unfold FU; omega
                                             omega⟩
theorem TX_strip (hca : ta < a ∧ a + 4 < a1) (hcc : c < 6) {ds rs : AS} (hT : TD0 κ ds a ta n T) (h5 : gr ds a 5 = some A) (hw : gr ds a 6 = some (kK (kt κ) iw)) (hq : TQ rs q n T) (h2 : gi rs (q + 2) 3 = nI c) :
    ∃ F ds' rs', F < 4000 ∧ f_Rd_readStrip κ a a1 (nI n) ds = some (nI F, ds') ∧ txP κ q (nI 3) rs = some ((if F = 0 then nI c else -2 - nI F), rs') ∧ gr ds' a 0 = some ta ∧ gr ds' a 5 = some A ∧ gr ds' a 6 = some (kK (kt κ) iw) ∧ (F = 0 → STPR ds' rs' a1 q c) ∧ gi rs' q 1 = 0 ∧ (∀ i, gi rs' (q + 2) i = if F = 0 ∧ i = 3 then nI (c + 1) else gi rs (q + 2) i) ∧ Same (dvW a a1 2) ds ds' ∧ Same (srW q c) rs rs' := by
  have hta : ta < a := hca.1
  have hn := hT.2.2.1
  obtain ⟨hO, wO⟩ := d_open (κ := κ) hT
  obtain ⟨S, eS, hRS, wS, wSc⟩ := r_opens3 (κ := κ) hcc hq h2
  rw [readStrip_w, eS, stripHere_w, grd_t (vp_in_nI hcc (by decide)), nI_clamp (show c < 2 ^ 31 by omega)]
  have g5 : gr (f_Rd_open κ a (nI n) ds) a 5 = some A := by unfold f_Rd_open; exact h5
  have g6 : gr (f_Rd_open κ a (nI n) ds) a 6 = some (kK (kt κ) iw) := by unfold f_Rd_open; exact hw
  generalize f_Rd_open κ a (nI n) ds = s0 at *
  have w10 : Same (rsW q c) S (ui S (q + 10) c 0) := (Same.rf _ _).ui (by unfold rsW; omega)
  have hR10 : RQ (ui S (q + 10) c 0) q n T 0 0 0 := ⟨hRS.1.gen w10 (fun z => by unfold rsW rqW at z; omega) (fun j z => by unfold rsW rqW at z; omega), by rw [gi_ui, if_neg (fun z => by omega)]; exact hRS.2.1, hRS.2.2.1, by rw [gi_ui, if_neg (fun z => by omega)]; exact hRS.2.2.2.1, by rw [gi_ui, if_neg (fun z => by omega)]; exact hRS.2.2.2.2⟩
  have g10 : gi (ui S (q + 10) c 0) (q + 10) c = nI 0 := by rw [gi_ui, if_pos ⟨rfl, rfl⟩]; rfl
  generalize ui S (q + 10) c 0 = S1 at *
  obtain ⟨s1, e1, h1, w1⟩ := d_number hO (x := 1) (y := 9999) (lo := 1) (hi := 9999) rfl rfl (by decide) (by decide)
  obtain ⟨p2, v2, r2, e2, h2r, h2v, w2⟩ := r_number (κ := κ) hR10 (x := 1) (y := 9999) (lo := 1) (hi := 9999) rfl rfl (by decide) (by decide)
  rw [if_pos rfl] at h1
  have hnl := nfl_lt (T := T) (n := n) (p := 0) (lo := 1) (hi := 9999) hn (Nat.zero_le _)
  have hD1 : DR κ s1 a ta A iw n T (den T n (skp T n 0)) (nI (nfl T n 0 1 9999)) 0 := ⟨h1, by rw [(w1 _ _ (fun z => by unfold rdW at z; omega)).2.2]; exact g5, by rw [(w1 _ _ (fun z => by unfold rdW at z; omega)).2.2]; exact g6⟩
  rw [e1, bnd2_t, e2, bnd2_t, gput_n (i := 0) (j := 0) rfl (by decide) (by decide)]
  have w0 : Same (dvW a a1 2) ds s1 := (wO.mono (fun _ _ z => Or.inl z)).tr (rd_dv w1)
  have wS2 : Same (srW q c) rs r2 := (wS.tr (rs_sr w10)).tr (rs_sr (rq_rs w2))
  have hS2 : ∀ i, gi r2 (q + 2) i = gi rs (q + 2) i := fun i => by
    rw [(w2 _ _ (fun z => by unfold rqW at z; omega)).1, (w10 _ _ (fun z => by unfold rsW rqW at z; omega)).1]
    exact wSc i
  have wsp : ∀ v : Int32, Same (spW a1) s1 (ui (ui s1 a1 2 0) (a1 + 1) 0 v) := fun v => ((Same.rf _ _).ui (by unfold spW; omega)).ui (by unfold spW; omega)
  by_cases hz : nfl T n 0 1 9999 = 0
  · rw [if_pos hz, if_neg (show ¬ (1 : Int32) = 0 by decide), show (21 : Int32) * nI c = nI (21 * c) by rw [show (21 : Int32) = nI 21 from rfl, nI_mul], grd_t (vp_in_nI (show 21 * c < 126 by omega) (by decide)), nI_clamp (show 21 * c < 2 ^ 31 by omega)]
    rw [hz] at hD1 h2r
    obtain ⟨y1, y2, y3⟩ := h2v hz
    have hv := nfl_0 hz
    rw [← y3] at hv ⊢
    rw [← y1] at hD1
    rw [y2]
    have hD3 : DR κ (ui (ui s1 a1 2 0) (a1 + 1) 0 (nI v2)) a ta A iw n T p2 0 0 := hD1.gen (wsp _) (fun j z => by unfold spW at z; omega) (fun j z => by unfold spW at z; omega)
    have hSD : STD (ui (ui s1 a1 2 0) (a1 + 1) 0 (nI v2)) a1 0 (fun _ => v2) (fun _ => 0) := by
      refine ⟨by rw [gi_ui, if_neg (fun z => by omega), gi_ui, if_pos ⟨rfl, rfl⟩]; rfl, fun i hi => ?_, fun i hi => absurd hi (Nat.not_lt_zero _)⟩
      obtain rfl : i = 0 := by omega
      rw [gi_ui, if_pos ⟨rfl, rfl⟩]
    have w3 : Same (rsW q c) r2 (ui r2 (q + 8) (21 * c) (nI v2)) := (Same.rf _ _).ui (by unfold rsW; omega)
    have hR3 : RQ (ui r2 (q + 8) (21 * c) (nI v2)) q n T p2 0 0 := ⟨h2r.1.gen w3 (fun z => by unfold rsW rqW at z; omega) (fun j z => by unfold rsW rqW at z; omega), by rw [gi_ui, if_neg (fun z => by omega)]; exact h2r.2.1, h2r.2.2.1, by rw [gi_ui, if_neg (fun z => by omega)]; exact h2r.2.2.2.1, by rw [gi_ui, if_neg (fun z => by omega)]; exact h2r.2.2.2.2⟩
    have hSQ : STQ (ui r2 (q + 8) (21 * c) (nI v2)) q c 0 (fun _ => v2) (fun _ => 0) := by
      refine ⟨by rw [gi_ui, if_neg (fun z => by omega), (w2 _ _ (fun z => by unfold rqW at z; omega)).1]; exact g10, fun i hi => ?_, fun i hi => absurd hi (Nat.not_lt_zero _)⟩
      obtain rfl : i = 0 := by omega
      rw [gi_ui, if_pos ⟨rfl, rfl⟩]
    have wS3 : Same (srW q c) rs (ui r2 (q + 8) (21 * c) (nI v2)) := wS2.tr (rs_sr w3)
    have hS3 : ∀ i, gi (ui r2 (q + 8) (21 * c) (nI v2)) (q + 2) i = gi rs (q + 2) i := fun i => by rw [gi_ui, if_neg (fun z => by omega)]; exact hS2 i
    have w03 : Same (dvW a a1 2) ds (ui (ui s1 a1 2 0) (a1 + 1) 0 (nI v2)) := w0.tr (st_dv (sp_sp (wsp _)))
    generalize ui (ui s1 a1 2 0) (a1 + 1) 0 (nI v2) = s3 at *
    generalize ui r2 (q + 8) (21 * c) (nI v2) = r3 at *
    rcases E_stripL hca hcc (kdC κ) 0 0 _ 0 _ _ p2 p2 FU FU _ _ (Nat.zero_add 21) hD3 hR3 rfl hSD hSQ ⟨Nat.zero_le _, fun i _ => hv, fun i _ => (by decide : 0 < 2)⟩ (by unfold FU; omega) (by unfold FU; omega) with ⟨ds1, rs1, F1, P1, f1, pd, pr, f1e, f2e, hDe, hRe, hsk, hSDe, hSQe, hok, v1, v3⟩ | ⟨ds1, rs1, F, f1e, hF, f2e, e12, v1, v3⟩
    · have g2 : ∀ i, gi rs1 (q + 2) i = gi rs (q + 2) i := fun i => by rw [(v3 _ _ (fun z => by unfold rsW rqW at z; omega)).1]; exact hS3 i
      obtain ⟨F, ds2, rs2, t1, t2, t3, t4, t5, t6, t7, t8⟩ := T_good (κ := κ) (s := 3) (c := c) hDe hRe hsk (by decide) hcc (by rw [g2]; exact h2) (fun z => (nomatch z))
      refine ⟨F, ds2, rs2, t1, by rw [f1e, t2], by rw [f2e, bnd2_t, t3], ?_, ?_, ?_, fun hz => ?_, t4, fun i => by rw [t5, g2], (w03.tr (st_dv v1)).tr (rd_dv t6), (wS3.tr (rs_sr v3)).tr (en_sr t7)⟩
      · rw [(t6 _ _ (fun z => by unfold rdW at z; omega)).2.2]; exact hDe.1.1.1
      · rw [(t6 _ _ (fun z => by unfold rdW at z; omega)).2.2]; exact hDe.2.1
      · rw [(t6 _ _ (fun z => by unfold rdW at z; omega)).2.2]; exact hDe.2.2
      · exact ⟨F1, P1, f1, hSDe.of t6 (fun z => by unfold rdW at z; omega) (fun j z => by unfold rdW at z; omega) (fun j z => by unfold rdW at z; omega), hSQe.of t7 (fun z => by unfold enW rqW at z; omega) (fun j z => by unfold enW rqW at z; omega) (fun j z => by unfold enW rqW at z; omega), hok⟩
    · have g2 : ∀ i, gi rs1 (q + 2) i = gi rs (q + 2) i := fun i => by rw [(v3 _ _ (fun z => by unfold rsW rqW at z; omega)).1]; exact hS3 i
      obtain ⟨ds2, rs2, t1, t0, t2, t3, t4, t5, t6, t7⟩ := T_bad (κ := κ) hF e12 3 c
      obtain ⟨-, p', m', hD'⟩ := hF
      refine ⟨F, ds2, rs2, t1, by rw [f1e, t2], by rw [f2e, bnd2_t, t3, if_neg t0], ?_, ?_, ?_, fun hz => absurd hz t0, t4, fun i => by rw [t5, g2, if_neg (fun z => t0 z.1)], (w03.tr (st_dv v1)).tr (rd_dv t6), (wS3.tr (rs_sr v3)).tr (en_sr t7)⟩
      · rw [(t6 _ _ (fun z => by unfold rdW at z; omega)).2.2]; exact hD'.1.1.1
      · rw [(t6 _ _ (fun z => by unfold rdW at z; omega)).2.2]; exact hD'.2.1
      · rw [(t6 _ _ (fun z => by unfold rdW at z; omega)).2.2]; exact hD'.2.2
  · rw [if_neg hz, if_pos (show (0 : Int32) = 0 from rfl), bnd2_t]
    have hFS : FS κ s1 a ta A iw n T (nfl T n 0 1 9999) := FS.mk (by omega) hnl hD1
    have hFS3 := hFS.sp hca (wsp (nI (nvl5 T (skp T n 0) (den T n (skp T n 0)))))
    obtain ⟨d, hd⟩ := FUd
    obtain ⟨s4, f4, h4, w4⟩ := F_stripL (a1 := a1) (kdC κ) hFS3 d (x4 := 0) (by decide)
    obtain ⟨ds2, rs2, t1, t0, t2, t3, t4, t5, t6, t7⟩ := T_bad (κ := κ) h4 h2r.2.2.2.1 3 c
    obtain ⟨-, p', m', hD'⟩ := h4
    refine ⟨_, ds2, rs2, t1, by rw [hd, f4, t2], by rw [t3, if_neg t0], ?_, ?_, ?_, fun hz => absurd hz t0, t4, fun i => by rw [t5, hS2, if_neg (fun z => t0 z.1)], ((w0.tr (st_dv (sp_sp (wsp _)))).tr (st_dv w4)).tr (rd_dv t6), wS2.tr (en_sr t7)⟩
    · rw [(t6 _ _ (fun z => by unfold rdW at z; omega)).2.2]; exact hD'.1.1.1
    · rw [(t6 _ _ (fun z => by unfold rdW at z; omega)).2.2]; exact hD'.2.1
    · rw [(t6 _ _ (fun z => by unfold rdW at z; omega)).2.2]; exact hD'.2.2
end Whole6
