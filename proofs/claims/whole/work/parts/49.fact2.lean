/-! facts: brackets, not, signs -/
section FactEnds
variable {κ : Ko} {a ta A t iw n q p dp : Nat} {T : Nat → Nat} {rs : AS} {m : Int32} {L : List (Nat × Nat)} {O : List Nat}
theorem r_opens (h : RR_ rs q t n T p m L) (hO : OST rs q O dp) (hdp : dp ≤ 10) (hl : O.length < 400) {c : Nat} {x : Int32} (hx : x = nI c) :
    (dp < 10 ∧ ∃ rs', f_R_opens κ q x rs = some (1, rs') ∧ RR_ rs' q t n T p m L ∧ OST rs' q (O ++ [c]) (dp + 1) ∧ Same (pbW q t) rs rs') ∨ (dp = 10 ∧ ∃ rs', f_R_opens κ q x rs = some (0, rs') ∧ gi rs' q 12 = nI (1 + 8 * p + 2) ∧ Same (pbW q t) rs rs') := by
  have c10 := (nI_ltk (m := dp) (k := 10) (y := 10) rfl (by omega) (by decide)).2.2.2.2
  unfold f_R_opens
  rw [hO.1]
  simp only [c10]
  by_cases k : dp = 10
  · right
    rw [if_pos k, h.1.2.1]
    obtain ⟨r1, g1, k1, v1⟩ := r_fails (κ := κ) h.1 (x := 2) (y := nI p) (b := p) (k := 2) rfl rfl
    rw [g1, grd_t (Or.inl rfl)]
    exact ⟨k, r1, rfl, k1.2.2.2.1, rq_pb v1⟩
  · left
    rw [if_neg k, nI_1]
    have w1 : Same (stW q) rs (ui rs q 16 (nI (dp + 1))) := (Same.rf _ rs).ui (Or.inl ⟨rfl, by decide, by decide, by decide⟩)
    have O1 : OST (ui rs q 16 (nI (dp + 1))) q O (dp + 1) := ⟨by rw [gi_ui, if_pos ⟨rfl, rfl⟩], by rw [gi_ui, if_neg (fun z => by omega)]; exact hO.2.1, fun j hj => by rw [gi_ui, if_neg (fun z => by omega)]; exact hO.2.2 j hj⟩
    obtain ⟨a1, a2, a3⟩ := r_pushO (c := c) (x := x) O1 hx hl
    rw [grd_t a1]
    exact ⟨by omega, _, rfl, (h.st w1).st a3, a2, (st_pb w1).tr (st_pb a3)⟩
theorem r_close (hc : PC κ a ta A t iw) {W B : Bool} {dc d : Nat} (h : RR_ rs q t n T p m L) (hO : OST rs q ((O ++ [91]) ++ pl W B) (dp + 1)) (hl : L.length + (pc W B).length < 400) (hl2 : (O ++ [91]).length + (pc W B).length < 400) (h93 : nxt T n p = 93) (hlt : skp T n p < n) :
    ∃ rs', CL κ (dc + 1) d q rs = K3 κ FU dc d q rs' ∧ RR_ rs' q t n T (skp T n p + 1) m (L ++ pc W B) ∧ OST rs' q O dp ∧ Same (pbW q t) rs rs' := by
  unfold CL
  rw [L_R_closes_5]
  obtain ⟨r1, g1, k1, v1⟩ := r_see (κ := κ) h.1
  have R1 := h.of k1 v1
  have O1 := hO.rq v1
  have hll : ((O ++ [91]) ++ pl W B).length = (O ++ [91]).length + (pc W B).length := by rw [List.length_append, (pc_len W B).2]
  have hin : f_R_isInside κ q r1 = some 1 := r_in1 O1 (by omega) (j := O.length) (by simp only [List.length_append, List.length_cons, List.length_nil]; omega) (by rw [getD_app, if_pos (by simp), getD_app, if_neg (Nat.lt_irrefl _), Nat.sub_self]; rfl)
  rw [g1, bnd2_t, if_pos h93, hin, bnd_t, if_neg (show ¬ (1 : Int32) = 0 by decide)]
  obtain ⟨r2, g2, k2, o2, v2⟩ := r_settle1 (κ := κ) hc (e := FU - 3) R1 O1 (Or.inr ⟨O, rfl⟩) (Nat.le_of_lt hl) hl2
  have hFU : FU = FU - 3 + 3 := rfl
  have g2' : f_R_settles κ q 1 r2 = f_R_settles κ q 1 r2 := rfl
  rw [show f_R_settles κ q 1 r1 = some r2 from by unfold f_R_settles; rw [hFU]; exact g2, bnd_t]
  obtain ⟨t1, t2⟩ := o2.top
  have P2 := o2.pop
  rw [t1, nI_pred, P2.1, show nI (dp + 1) - 1 = nI dp from nI_pred _]
  have w3 : Same (stW q) r2 (ui (ui r2 q 19 (nI O.length)) q 16 (nI dp)) := ((Same.rf _ r2).ui (Or.inl ⟨rfl, by decide, by decide, by decide⟩)).ui (Or.inl ⟨rfl, by decide, by decide, by decide⟩)
  have R3 := k2.st w3
  rw [R3.1.2.1, nI_1]
  have R4 := R3.of (R3.1.at (p' := skp T n p + 1) (by omega)) (rq_11 (Same.rf _ _))
  have O3 : OST (ui (ui r2 q 19 (nI O.length)) q 16 (nI dp)) q O dp := ⟨by rw [gi_ui, if_pos ⟨rfl, rfl⟩], by rw [gi_ui, if_neg (fun z => by omega)]; exact P2.2.1, fun j hj => by rw [gi_ui, if_neg (fun z => by omega)]; exact P2.2.2 j hj⟩
  refine ⟨_, ?_, R4, O3.rq (rq_11 (Same.rf _ _)), ((rq_pb v1).tr v2).tr ((st_pb w3).tr (rq_pb (rq_11 (Same.rf _ _))))⟩
  rw [bnd_bnd]
  rfl
theorem r_noclose {W B : Bool} {dc d : Nat} (h : RR_ rs q t n T p m L) (hO : OST rs q ((O ++ [91]) ++ pl W B) dp) (hl2 : (O ++ [91]).length + (pc W B).length ≤ 400) (h93 : nxt T n p ≠ 93) (ha : wnx T n p [97, 110, 100] = false) (ho : wnx T n p [111, 114] = false) :
    ∃ rs', CL κ (dc + 1) (d + 1) q rs = some (0, rs') ∧ gi rs' q 12 = nI (1 + 8 * skp T n p + 0) ∧ Same (pbW q t) rs rs' := by
  have hss := skp_skp (T := T) h.1.2.2.1
  have hll : ((O ++ [91]) ++ pl W B).length = (O ++ [91]).length + (pc W B).length := by rw [List.length_append, (pc_len W B).2]
  obtain ⟨r1, g1, k1, v1⟩ := r_clNo (κ := κ) (dc := dc) (d := d + 1) h h93
  obtain ⟨r2, g2, k2, v2⟩ := r_restNo (κ := κ) (d := d) k1 (by rw [wnx_e hss]; exact ha) (by rw [wnx_e hss]; exact ho)
  rw [hss] at k2
  have O2 := (hO.rq v1).rq v2
  have hin : f_R_isInside κ q r2 = some 1 := r_in1 O2 (by omega) (j := O.length) (by simp only [List.length_append, List.length_cons, List.length_nil]; omega) (by rw [getD_app, if_pos (by simp), getD_app, if_neg (Nat.lt_irrefl _), Nat.sub_self]; rfl)
  rw [g1, g2]
  unfold tEnd
  rw [hin, bnd_t, if_neg (show ¬ (1 : Int32) = 0 by decide)]
  obtain ⟨r3, g3, k3, v3⟩ := r_see (κ := κ) k2.1
  rw [hss] at k3
  have R3 := k2.of k3 v3
  obtain ⟨r4, g4, k4, v4⟩ := r_fails (κ := κ) R3.1 (x := 0) (y := nI (skp T n p)) (b := skp T n p) (k := 0) rfl rfl
  rw [g3, bnd2_t, R3.1.2.1, g4, grd_t (Or.inl rfl)]
  exact ⟨r4, rfl, k4.2.2.2.1, rq_pb (((v1.tr v2).tr v3).tr v4)⟩
end FactEnds
section FactStep
variable {κ : Ko} {a ta A t iw n q : Nat} {T : Nat → Nat}
theorem one_ne : ((1 : Int32) = 0) = False := by decide
theorem E_factS (hc : PC κ a ta A t iw) {dk : Nat} (ih : ∀ dk', dk = dk' + 1 → FactP κ a ta A iw q t n T dk') : FactP κ a ta A iw q t n T dk := by
  intro dp pd pr m df d Ld Lr O ds rs hdk h hO hl1 hl2 hdf hd
  obtain ⟨⟨hD, hC⟩, hR, hsk, hm, hv, hvc⟩ := h
  obtain ⟨hpn, hn⟩ := hD.m
  have ht : t < 18 := by have := hc.2.2.2; omega
  have hlo := skp_lo (T := T) hpn
  have hss := skp_skp (T := T) hpn
  have hsr := skp_skp (T := T) hR.1.2.2.1
  obtain ⟨df, rfl⟩ : ∃ e, df = e + 2 := ⟨df - 2, by omega⟩
  have c10 := (nI_ltk (m := dp) (k := 10) (y := 10) rfl (by omega) (by decide)).1
  obtain ⟨s1, e1, h1, w1⟩ := d_next hD.1
  have D1 := hD.of h1 w1
  have C1 := hC.rd hc w1
  obtain ⟨r1, g1, k1, v1⟩ := r_see (κ := κ) hR.1
  have R1 := hR.of k1 v1
  have O1 := hO.rq v1
  obtain ⟨r2, g2, k2, v2⟩ := r_isWord (κ := κ) R1.1 (cs := [110, 111, 116]) (y := 7237492) rfl rfl
  rw [hsr] at g2 k2
  have R2 := R1.of k2 v2
  have O2 := O1.rq v2
  rw [← hsk] at R2
  have hnw : wqB T (skp T n pr) (wen T n (skp T n pr)) [110, 111, 116] = wnx T n pd [110, 111, 116] := by unfold wnx; rw [hsk]
  rw [hnw] at g2
  unfold RF
  rw [L_R_fact_2, if_neg (show ¬ (1 : Int32) = 0 by decide), g1, bnd2_t, g2, bnd2_t]
  have hnx : nxt T n pr = if skp T n pd < n then nI (T (skp T n pd)) else -1 := by unfold nxt; rw [hsk]
  have tk : ∀ b, tks T n pd 0 b = true ↔ (skp T n pd < n ∧ T (skp T n pd) = b) := fun b => by unfold tks; rw [decide_eq_true_eq]; exact ⟨fun z => z.2, fun z => ⟨rfl, z⟩⟩
  have hTl : skp T n pd < n → T (skp T n pd) < 256 := fun z => (hD.1.1.2.2.2.2.1 _ z).2
  have wD1 : Same (pdW a A) ds s1 := rd_pd w1
  have wR2 : Same (pbW q t) rs r2 := rq_pb (v1.tr v2)
  have hwl := wen_lo (T := T) hlo.2
  by_cases kB : tks T n pd 0 91 = true
  · -- a bracket
    obtain ⟨hlt, h91⟩ := (tk _).mp kB
    have hnn : wnx T n pd [110, 111, 116] = false := by
      refine Bool.eq_false_iff.mpr (fun z => ?_)
      have := (of_decide_eq_true z).2 0 (by decide)
      rw [Nat.add_zero, h91] at this
      exact absurd this (by decide)
    rw [hnn, if_neg (show ¬ (false = true) by decide), if_pos (show (0 : Int32) = 0 from rfl), if_pos (show nxt T n pr = 91 by rw [hnx, if_pos hlt, h91]; rfl)]
    obtain ⟨s2, e2, h2, w2⟩ := d_takes1 D1.1 (x := 91) (b := 91) rfl (by decide) (by rw [tks_eq hss]; exact kB)
    rw [hss] at h2
    have D2 := D1.of h2 w2
    have C2 := C1.rd hc w2
    have wD2 := wD1.tr (rd_pd (A := A) w2)
    rcases r_opens (κ := κ) R2 O2 (by omega) (by omega) (c := 91) (x := 91) rfl with ⟨m1, r3, g3, R3, O3, v3⟩ | ⟨m1, r3, g3, k3, v3⟩
    · rw [g3, bnd2_t, if_neg (show ¬ (1 : Int32) = 0 by decide), R3.1.2.1, nI_1]
      have R4 := R3.of (R3.1.at (p' := skp T n pd + 1) (by omega)) (rq_11 (Same.rf _ _))
      have O4 := O3.rq (rq_11 (v := nI (skp T n pd + 1)) (Same.rf _ r3))
      have wR4 : Same (pbW q t) rs (ui r3 q 11 (nI (skp T n pd + 1))) := (wR2.tr v3).tr (rq_pb (rq_11 (Same.rf _ _)))
      obtain ⟨dk, rfl⟩ : ∃ e, dk = e + 1 := ⟨dk - 1, by omega⟩
      rw [f_Rd_fact, e1, bnd2_t, e2, bnd2_t]
      simp only [jn_e, one_ne, if_false, if_true]
      rw [if_pos (show nI dp < 10 from c10.mpr m1), nI_1]
      have hP : PS κ s2 _ a ta A iw q t n T (skp T n pd + 1) (skp T n pd + 1) Ld Lr m := ⟨⟨D2, C2⟩, R4, rfl, hm, hv, hvc⟩
      have lO : (O ++ [91]).length = O.length + 1 := List.length_append
      have hRF : bnd2 (L_R_fact_2 κ (kFa κ) (df + 1) q 1 (ui r3 q 11 (nI (skp T n pd + 1)))) (fun v1 s2 => if v1 = 0 then some ((0 : Int32), s2) else bnd (f_R_closes κ q s2) (tRest κ d q)) = RF κ (df + 1) d q (ui r3 q 11 (nI (skp T n pd + 1))) := rfl
      have hkf : (fun (v20 : Nat) (s22 : AS) => bnd2 (f_R_compare κ v20 s22) fun v23 s24 => grd (v23 = 0 ∨ v23 = 1) (some (v23, s24))) = kFa κ := rfl
      rw [hRF]
      rcases E_test (κ := κ) (q := q) (T := T) hc (ih dk rfl) (dp := dp + 1) (by omega) hP O4 (Or.inr ⟨O, rfl⟩) (by omega) (by omega) (df := df + 1) (d := d) (by omega) (by omega) with ⟨ds3, rs3, R', W, B, pd3, pr3, m3, dc3, d3, a1, a2, a3, a4, a5, a6, a7, a8, ⟨f1, f2⟩, a9, a10⟩ | ⟨ds3, rs3, F, a1, a2, a3, a4, a5, a6⟩
      · obtain ⟨⟨D3, C3⟩, Q3, sk3, mm3, v3', vc3⟩ := a3
        obtain ⟨hpn3, -⟩ := D3.m
        have hlo3 := skp_lo (T := T) hpn3
        have hss3 := skp_skp (T := T) hpn3
        obtain ⟨dc3, rfl⟩ : ∃ e, dc3 = e + 1 := ⟨dc3 - 1, by omega⟩
        obtain ⟨d3, rfl⟩ : ∃ e, d3 = e + 1 := ⟨d3 - 1, by omega⟩
        have ll : (Lr ++ R').length = Lr.length + R'.length := List.length_append
        rw [a1, bnd_t, a2]
        have tk3 : ∀ b, tks T n pd3 0 b = true ↔ (skp T n pd3 < n ∧ T (skp T n pd3) = b) := fun b => by unfold tks; rw [decide_eq_true_eq]; exact ⟨fun z => z.2, fun z => ⟨rfl, z⟩⟩
        have hT3 : skp T n pd3 < n → T (skp T n pd3) < 256 := fun z => (D3.1.1.2.2.2.2.1 _ z).2
        have hnx3 : nxt T n pr3 = if skp T n pd3 < n then nI (T (skp T n pd3)) else -1 := by unfold nxt; rw [sk3]
        by_cases k93 : tks T n pd3 0 93 = true
        · left
          obtain ⟨z1, z2⟩ := (tk3 _).mp k93
          obtain ⟨s4, e4, h4, w4⟩ := d_takes1 D3.1 (x := 93) (b := 93) rfl (by decide) k93
          have D4 := D3.of h4 w4
          have C4 := C3.rd hc w4
          rw [e4, bnd2_t, if_neg (show ¬ (1 : Int32) = 0 by decide)]
          obtain ⟨r5, g5, k5, o5, v5⟩ := r_close (κ := κ) hc (dc := dc3) (d := d3 + 1) Q3 a5 (by omega) (by omega) (by rw [hnx3, if_pos z1, z2]; rfl) (by rw [← sk3]; exact z1)
          rw [← sk3] at k5
          rw [g5]
          refine ⟨s4, r5, R' ++ pc W B, skp T n pd3 + 1, skp T n pd3 + 1, m3, FU, dc3, d3 + 1, rfl, rfl, ⟨⟨D4, C4⟩, by rw [← List.append_assoc]; exact k5, rfl, mm3, v3', vc3⟩, a4, o5, by omega, by rw [List.length_append]; omega, ⟨by unfold FU; omega, by omega, by omega⟩, (wD2.tr a9).tr (rd_pd w4), (wR4.tr a10).tr v5⟩
        · right
          obtain ⟨p4, s4, e4, h4, -, q4, w4⟩ := d_takes0 D3.1 (x := 93) (b := 93) rfl (by decide) (Bool.eq_false_iff.mpr k93)
          rw [q4 rfl] at h4
          have D4 := D3.of h4 w4
          obtain ⟨s5, e5, h5, w5⟩ := d_fail D4.1 (x := nI (skp T n pd3)) (y := 0) (b := skp T n pd3) (k := 0) rfl rfl
          rw [ffl_0] at h5
          have D5 := D4.of h5 w5
          rw [e4, bnd2_t, if_pos (show (0 : Int32) = 0 from rfl), D4.1.2.1, e5]
          obtain ⟨r5, g5, k5, v5⟩ := r_noclose (κ := κ) (dc := dc3) (d := d3) Q3 a5 (by omega) (by
            rw [hnx3]
            by_cases z : skp T n pd3 < n
            · have := hT3 z
              rw [if_pos z]
              intro zz
              exact k93 ((tk3 _).mpr ⟨z, (nI_eq (b := 93) (by omega) (by decide)).mp zz⟩)
            · rw [if_neg z]; decide) (by rw [wnx_e sk3.symm]; exact a6.1) (by rw [wnx_e sk3.symm]; exact a6.2)
          rw [← sk3] at k5
          rw [g5]
          exact ⟨s5, r5, _, rfl, FS.mk (by omega) (by omega) D5, rfl, k5, ((wD2.tr a9).tr (rd_pd w4)).tr (rd_pd w5), (wR4.tr a10).tr v5⟩
      · right
        obtain ⟨⟨F0, F1⟩, p3, m3, D3⟩ := a2
        rw [a1, bnd_t]
        obtain ⟨p4, s4, e4, h4, -, -, w4⟩ := d_takes0 D3.1 (x := 93) (b := 93) rfl (by decide) (tks_F F0 F1)
        have D4 := D3.of h4 w4
        obtain ⟨s5, e5, h5, w5⟩ := d_fail D4.1 (x := nI p4) (y := 0) (b := p4) (k := 0) rfl rfl
        rw [ffl_n F0 F1] at h5
        have D5 := D4.of h5 w5
        rw [e4, bnd2_t, if_pos (show (0 : Int32) = 0 from rfl), D4.1.2.1, e5]
        exact ⟨s5, rs3, F, rfl, FS.mk F0 F1 D5, a3, a4, ((wD2.tr a5).tr (rd_pd w4)).tr (rd_pd w5), wR4.tr a6⟩
    · right
      rw [g3, bnd2_t, if_pos (show (0 : Int32) = 0 from rfl), bnd2_t, if_pos (show (0 : Int32) = 0 from rfl)]
      obtain ⟨s3, e3, h3, w3⟩ := d_fail D2.1 (x := nI (skp T n pd)) (y := 2) (b := skp T n pd) (k := 2) rfl rfl
      rw [ffl_0] at h3
      have D3 := D2.of h3 w3
      have n10 : ¬ nI dp < 10 := fun z => by have := c10.mp z; omega
      obtain rfl : dk = 0 := by omega
      rw [f_Rd_fact, e1, bnd2_t, e2, bnd2_t]
      simp only [jn_e, one_ne, if_false, if_true]
      rw [if_neg n10, e3]
      exact ⟨s3, r3, _, rfl, FS.mk (by omega) (by omega) D3, rfl, k3, wD2.tr (rd_pd w3), wR2.tr v3⟩
  · obtain ⟨p2, s2, e2, h2, -, q2, w2⟩ := d_takes0 D1.1 (x := 91) (b := 91) rfl (by decide) (by rw [tks_eq hss]; exact Bool.eq_false_iff.mpr kB)
    rw [q2 rfl, hss] at h2
    have D2 := D1.of h2 w2
    have C2 := C1.rd hc w2
    have wD2 := wD1.tr (rd_pd (A := A) w2)
    obtain ⟨s3, e3, h3, w3⟩ := d_takesW D2.1 (i := 3) (by decide)
    rw [wRs_1 (cs := [110, 111, 116]) rfl, wnx_e hss] at e3 h3
    rw [hss] at h3
    have wD3 := wD2.tr (rd_pd (A := A) w3)
    by_cases kN : wnx T n pd [110, 111, 116] = true
    · -- not
      have hw2 := wnx_lt kN
      simp only [List.length_cons, List.length_nil] at hw2
      rw [if_pos kN] at e3 h3 ⊢
      simp only [] at e3 h3
      have D3 := D2.of h3 w3
      have C3 := C2.rd hc w3
      rw [if_neg (show ¬ (1 : Int32) = 0 by decide)]
      rcases r_opens (κ := κ) R2 O2 (by omega) (by omega) (c := 11) (x := 11) rfl with ⟨m1, r3, g3, R3, O3, v3⟩ | ⟨m1, r3, g3, k3, v3⟩
      · rw [g3, bnd2_t, if_neg (show ¬ (1 : Int32) = 0 by decide)]
        obtain ⟨r4, g4, k4, v4⟩ := r_pass (κ := κ) R3.1
        have R4 := R3.of k4 v4
        have O4 := O3.rq v4
        rw [g4, bnd_t]
        have wR4 : Same (pbW q t) rs r4 := (wR2.tr v3).tr (rq_pb v4)
        obtain ⟨dk, rfl⟩ : ∃ e, dk = e + 1 := ⟨dk - 1, by omega⟩
        rw [f_Rd_fact, e1, bnd2_t, e2, bnd2_t]
        simp only [jn_e, if_true]
        rw [e3, bnd2_t]
        simp only [one_ne, if_false]
        rw [if_pos (show nI dp < 10 from c10.mpr m1), nI_1]
        have hP : PS κ s3 r4 a ta A iw q t n T (wen T n (skp T n pd)) (wen T n (skp T n pd)) Ld Lr m := ⟨⟨D3, C3⟩, R4, rfl, hm, hv, hvc⟩
        have lO : (O ++ [11]).length = O.length + 1 := List.length_append
        have hRF : bnd2 (L_R_fact_2 κ (kFa κ) (df + 1) q 1 r4) (fun v1 s2 => if v1 = 0 then some ((0 : Int32), s2) else bnd (f_R_closes κ q s2) (tRest κ d q)) = RF κ (df + 1) d q r4 := rfl
        rw [hRF]
        rcases ih dk rfl (dp + 1) (wen T n (skp T n pd)) (wen T n (skp T n pd)) m (df + 1) d Ld Lr (O ++ [11]) s3 r4 (by omega) hP O4 (by omega) (by omega) (by omega) (by omega) with ⟨ds3, rs3, R', pd3, pr3, m3, sf, dc3, d3, a1, a2, a3, a4, a5, a6, a7, ⟨f1, f2, f3⟩, a8, a9⟩ | ⟨ds3, rs3, F, a1, a2, a3, a4, a5, a6⟩
        · left
          obtain ⟨⟨D5, C5⟩, Q5, sk5, mm5, v5, vc5⟩ := a3
          obtain ⟨hpn5, -⟩ := D5.m
          have l1 : (Ld ++ R').length = Ld.length + R'.length := List.length_append
          have l2 : (Lr ++ R').length = Lr.length + R'.length := List.length_append
          obtain ⟨sf, rfl⟩ : ∃ e, sf = e + 1 := ⟨sf - 1, by omega⟩
          rw [a1, bnd_t, D5.2.1, bnd_t, grd_t hc.2.2.1, a2]
          have w6 := d_add_same (κ := κ) ds3 A 11 0
          have C6 := d_add (κ := κ) C5 (by omega) (11, 0) (y := 11) (z := 0) rfl rfl
          obtain ⟨r6, g6, k6, o6, v6⟩ := r_popS (κ := κ) hc (e := sf) (c := 11) (X := 3) (x1 := 3) Q5 a5 (by decide) (by decide) rfl (by omega) (by omega) (fun _ => by omega)
          rw [if_pos rfl] at o6
          have hK : K3 κ (sf + 1) dc3 d3 q rs3 = K3 κ sf dc3 d3 q r6 := by
            unfold K3
            rw [g6]
          rw [hK]
          refine ⟨_, r6, R' ++ [(11, 0)], pd3, pr3, m3, sf, dc3, d3, rfl, rfl, ⟨⟨D5.cd hc w6, by rw [← List.append_assoc]; exact C6⟩, by rw [← List.append_assoc]; exact k6, sk5, mm5, ?_, ?_⟩, TestR.nt a4, o6, by omega, by rw [List.length_append]; simp only [List.length_cons, List.length_nil]; omega, ⟨by omega, by omega, by omega⟩, (wD3.tr a8).tr (cd_pd w6), (wR4.tr a9).tr v6⟩
          · rw [← List.append_assoc]
            intro x hx
            rw [List.mem_append, List.mem_singleton] at hx
            rcases hx with hx | rfl
            · exact v5 x hx
            · exact ⟨by decide, by decide⟩
          · rw [← List.append_assoc, vcn_app]
            have : vcn [(11, 0)] = 0 := rfl
            omega
        · right
          rw [a1, bnd_t]
          obtain ⟨s6, e6, h6, w6⟩ := F_add hc a2 11 0 (fun z => some z)
          rw [e6]
          exact ⟨s6, rs3, F, rfl, h6, a3, a4, (wD3.tr a5).tr w6, wR4.tr a6⟩
      · right
        rw [g3, bnd2_t, if_pos (show (0 : Int32) = 0 from rfl), bnd2_t, if_pos (show (0 : Int32) = 0 from rfl)]
        obtain ⟨s4, e4, h4, w4⟩ := d_fail D3.1 (x := nI (skp T n pd)) (y := 2) (b := skp T n pd) (k := 2) rfl rfl
        rw [ffl_0] at h4
        have D4 := D3.of h4 w4
        have n10 : ¬ nI dp < 10 := fun z => by have := c10.mp z; omega
        obtain rfl : dk = 0 := by omega
        rw [f_Rd_fact, e1, bnd2_t, e2, bnd2_t]
        simp only [jn_e, if_true]
        rw [e3, bnd2_t]
        simp only [one_ne, if_false]
        rw [if_neg n10, e4]
        exact ⟨s4, r3, _, rfl, FS.mk (by omega) (by omega) D4, rfl, k3, wD3.tr (rd_pd w4), wR2.tr v3⟩
    · -- a sign between two sums
      rw [if_neg kN] at e3 h3 ⊢
      simp only [] at e3 h3
      have D3 := D2.of h3 w3
      have C3 := C2.rd hc w3
      rw [if_pos (show (0 : Int32) = 0 from rfl), if_neg (show ¬ nxt T n pr = 91 from fun z => kB (by
        rw [tk]
        rw [hnx] at z
        by_cases zz : skp T n pd < n
        · have := hTl zz
          rw [if_pos zz] at z
          exact ⟨zz, (nI_eq (b := 91) (by omega) (by decide)).mp z⟩
        · rw [if_neg zz] at z
          exact absurd z (by decide))), L_R_fact_2, if_pos (show (0 : Int32) = 0 from rfl)]
      have hP : PS κ s3 r2 a ta A iw q t n T (skp T n pd) (skp T n pd) Ld Lr m := ⟨⟨D3, C3⟩, R2, rfl, hm, hv, hvc⟩
      have hdev : f_Rd_fact κ iw dk a (nI dp) ds = cmpD κ iw a s3 := by
        unfold cmpD
        cases dk with
        | zero =>
          rw [f_Rd_fact, e1, bnd2_t, e2, bnd2_t]
          simp only [jn_e, if_true]
          rw [e3, bnd2_t]
          simp only [if_true]
        | succ dk =>
          rw [f_Rd_fact, e1, bnd2_t, e2, bnd2_t]
          simp only [jn_e, if_true]
          rw [e3, bnd2_t]
          simp only [if_true]
      rw [hdev]
      unfold kFa
      rcases E_compare (κ := κ) (q := q) (T := T) hc hP (by omega) (by omega) with ⟨ds3, rs3, R', pd3, pr3, m3, a1, a2, a3, a4, a5, a6, a8, a9⟩ | ⟨ds3, rs3, F, a1, a2, a3, a4, a5, a6⟩
      · left
        have O3 : OST rs3 q O dp := O2.of a9 (fun z => by unfold pqW cqW at z; omega) (fun z => by unfold pqW cqW at z; omega) (fun j z => by unfold pqW cqW at z; omega)
        rw [a1, a2, bnd2_t, grd_t (Or.inr rfl), bnd2_t, if_neg (show ¬ (1 : Int32) = 0 by decide), RF_1]
        exact ⟨ds3, rs3, R', pd3, pr3, m3, FU, FU, d, rfl, rfl, a3, a4, O3, by omega, by omega, ⟨by unfold FU; omega, by unfold FU; omega, by omega⟩, wD3.tr a8, wR2.tr (pq_pb a9)⟩
      · right
        rw [a1, a3, bnd2_t, grd_t (Or.inl rfl), bnd2_t, if_pos (show (0 : Int32) = 0 from rfl)]
        exact ⟨ds3, rs3, F, rfl, a2, rfl, a4, wD3.tr a5, wR2.tr (pq_pb a6)⟩
theorem E_fact (hc : PC κ a ta A t iw) : ∀ dk, FactP κ a ta A iw q t n T dk := by
  intro dk
  induction dk with
  | zero => exact E_factS hc (fun dk' z => by cases z)
  | succ dk ih => exact E_factS hc (fun dk' z => by obtain rfl : dk = dk' := (by omega); exact ih)
end FactStep
