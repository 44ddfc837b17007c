/-! facts: descent and stack in step -/
section FactRun
variable {κ : Ko} {a ta A t iw n q : Nat} {T : Nat → Nat}
def FOUT (κ : Ko) (a ta A iw q t n : Nat) (T : Nat → Nat) (O : List Nat) (dp : Nat) (Ld Lr : List (Nat × Nat)) (pd : Nat) (o : Option AS) (r : Option (Int32 × AS)) (ds rs : AS) : Prop :=
  ∃ ds' rs' R pd' pr' m' sf dc d, o = some ds' ∧ r = K3 κ sf dc d q rs' ∧ PS κ ds' rs' a ta A iw q t n T pd' pr' (Ld ++ R) (Lr ++ R) m' ∧ TestR R ∧ OST rs' q O dp ∧ pd < pd' ∧ pd + R.length ≤ pd' ∧ (1000 ≤ sf + pd' + (10 - dp) ∧ 1000 ≤ dc + pd' ∧ 1000 ≤ d + pd') ∧ Same (pdW a A) ds ds' ∧ Same (pbW q t) rs rs'
def FactP (κ : Ko) (a ta A iw q t n : Nat) (T : Nat → Nat) (dk : Nat) : Prop :=
  ∀ (dp pd pr m df d : Nat) (Ld Lr : List (Nat × Nat)) (O : List Nat) (ds rs : AS), dp + dk = 10 → PS κ ds rs a ta A iw q t n T pd pr Ld Lr m → OST rs q O dp → Ld.length ≤ pd → Lr.length + O.length ≤ pd → 1000 ≤ df + pd → 1000 ≤ d + pd →
    FOUT κ a ta A iw q t n T O dp Ld Lr pd (f_Rd_fact κ iw dk a (nI dp) ds) (RF κ df d q rs) ds rs ∨ BADB κ a ta A iw q t n T (f_Rd_fact κ iw dk a (nI dp) ds) (RF κ df d q rs) ds rs
def TOUT (κ : Ko) (a ta A iw q t n : Nat) (T : Nat → Nat) (O : List Nat) (dp K : Nat) (Ld Lr : List (Nat × Nat)) (pd : Nat) (o : Option AS) (r : Option (Int32 × AS)) (ds rs : AS) : Prop :=
  ∃ ds' rs' R W B pd' pr' m' dc d, o = some ds' ∧ r = CL κ dc d q rs' ∧ PS κ ds' rs' a ta A iw q t n T pd' pr' (Ld ++ (R ++ pc W B)) (Lr ++ R) m' ∧ TestR (R ++ pc W B) ∧ OST rs' q (O ++ pl W B) dp ∧ (wnx T n pd' [97, 110, 100] = false ∧ wnx T n pd' [111, 114] = false) ∧ pd ≤ pd' ∧ K + R.length + (pc W B).length ≤ pd' ∧ (1000 ≤ dc + pd' ∧ 1000 ≤ d + pd') ∧ Same (pdW a A) ds ds' ∧ Same (pbW q t) rs rs'
/-- what a level's code is so far -/
def tw (W : Bool) (R : List (Nat × Nat)) : Prop := if W = true then ∃ R1 R2, R = R1 ++ R2 ∧ TestR R1 ∧ TestR R2 else TestR R
theorem tw_or {W : Bool} {R : List (Nat × Nat)} (h : tw W R) : TestR (R ++ (if W then [(13, 0)] else [])) := by
  cases W with
  | false => rw [if_neg (by decide), List.append_nil]; exact h
  | true =>
    obtain ⟨R1, R2, rfl, h1, h2⟩ := h
    rw [if_pos rfl]
    exact TestR.bin h1 h2 (Or.inr rfl)
theorem tw_and {W : Bool} {R S : List (Nat × Nat)} (h : tw W R) (hS : TestR S) : tw W (R ++ S ++ [(12, 0)]) := by
  cases W with
  | false => exact TestR.bin (show TestR R from h) hS (Or.inl rfl)
  | true =>
    obtain ⟨R1, R2, rfl, h1, h2⟩ := h
    exact ⟨R1, R2 ++ S ++ [(12, 0)], by simp only [List.append_assoc], h1, TestR.bin h2 hS (Or.inl rfl)⟩
theorem pc_B (W B : Bool) : pc W B = pc false B ++ (if W then [(13, 0)] else []) := by unfold pc; simp
theorem pc_len (W B : Bool) : (pc W B).length ≤ 2 ∧ (pl W B).length = (pc W B).length := by cases W <;> cases B <;> exact ⟨by decide, rfl⟩
theorem pc_ok (W B : Bool) : (∀ x, x ∈ pc W B → x.1 < 14 ∧ x.2 < 100000) ∧ vcn (pc W B) = 0 := by cases W <;> cases B <;> exact ⟨by decide, rfl⟩
/-- after a fault the loop over facts ends -/
theorem F_testL (hc : PC κ a ta A t iw) {Ff : Nat → Int32 → AS → Option AS} {F : Nat} {ds : AS} (h : FS κ ds a ta A iw n T F) (x1 x2 : Int32) {x4 : Nat} (hx4 : x4 < 90000) (d : Nat) : ∃ ds', L_Rd_test_12 κ iw Ff (d + 2) a x1 x2 1 (nI x4) ds = some ds' ∧ FS κ ds' a ta A iw n T F ∧ Same (pdW a A) ds ds' := by
  rw [L_Rd_test_12]
  by_cases h4 : (400 : Int32) ≤ nI x4
  · rw [if_pos h4]
    exact ⟨ds, rfl, h, Same.rf _ _⟩
  · rw [if_neg h4, if_neg (show ¬ (1 : Int32) = 0 by decide)]
    obtain ⟨⟨F0, F1⟩, p, m, hD⟩ := h
    obtain ⟨s1, e1, h1, w1⟩ := d_takesW hD.1 (i := 4) (by decide)
    rw [wRs_F F0 F1] at e1 h1
    have D1 := hD.of h1 w1
    rw [e1, bnd2_t]
    simp only [if_true, jn_e]
    have nxt_ : ∀ (s2 : AS), FS κ s2 a ta A iw n T F → Same (pdW a A) ds s2 → ∃ ds', bnd2 (f_Rd_takesWord κ a 5 s2) (fun v9 s10 => if v9 = 0 then L_Rd_test_12 κ iw Ff (d + 1) a x1 v9 v9 (nI x4 + 1) s10 else bnd (Ff a x1 s10) (fun s11 => L_Rd_test_12 κ iw Ff (d + 1) a x1 v9 v9 (nI x4 + 1) s11)) = some ds' ∧ FS κ ds' a ta A iw n T F ∧ Same (pdW a A) ds ds' := by
      rintro s2 ⟨-, p2, m2, D2⟩ w2
      obtain ⟨s3, e3, h3, w3⟩ := d_takesW D2.1 (i := 5) (by decide)
      rw [wRs_F F0 F1] at e3 h3
      have D3 := D2.of h3 w3
      rw [e3, bnd2_t, if_pos (show (0 : Int32) = 0 from rfl), L_Rd_test_12, if_pos (show (0 : Int32) = 0 from rfl), ite_self]
      exact ⟨s3, rfl, FS.mk F0 F1 D3, w2.tr (rd_pd w3)⟩
    by_cases h2 : x2 = 0
    · rw [if_pos h2]
      exact nxt_ s1 (FS.mk F0 F1 D1) (rd_pd w1)
    · rw [if_neg h2]
      obtain ⟨s2, e2, h2, w2⟩ := F_add hc (FS.mk F0 F1 D1) 13 0 (fun s8 => bnd2 (f_Rd_takesWord κ a 5 s8) (fun v9 s10 => if v9 = 0 then L_Rd_test_12 κ iw Ff (d + 1) a x1 v9 v9 (nI x4 + 1) s10 else bnd (Ff a x1 s10) (fun s11 => L_Rd_test_12 κ iw Ff (d + 1) a x1 v9 v9 (nI x4 + 1) s11)))
      rw [e2]
      exact nxt_ s2 h2 ((rd_pd w1).tr w2)
theorem F_fact (hc : PC κ a ta A t iw) {F : Nat} {ds : AS} (h : FS κ ds a ta A iw n T F) (dk : Nat) (x1 : Int32) : ∃ ds', f_Rd_fact κ iw dk a x1 ds = some ds' ∧ FS κ ds' a ta A iw n T F ∧ Same (pdW a A) ds ds' := by
  have key : ∃ ds' v1 s2, f_Rd_nextPlace κ a ds = some (v1, s2) ∧ ∃ s4, f_Rd_takesByte κ a 91 s2 = some (0, s4) ∧ ∃ s6, f_Rd_takesWord κ a 3 s4 = some (0, s6) ∧ cmpD κ iw a s6 = some ds' ∧ FS κ ds' a ta A iw n T F ∧ Same (pdW a A) ds ds' := by
    obtain ⟨v1, s1, e1, h1, w1⟩ := F_next h
    obtain ⟨⟨F0, F1⟩, p, m, D1⟩ := h1
    obtain ⟨p2, s2, e2, h2, -, -, w2⟩ := d_takes0 D1.1 (x := 91) (b := 91) rfl (by decide) (tks_F F0 F1)
    have D2 := D1.of h2 w2
    obtain ⟨s3, e3, h3, w3⟩ := d_takesW D2.1 (i := 3) (by decide)
    rw [wRs_F F0 F1] at e3 h3
    have D3 := D2.of h3 w3
    obtain ⟨s4, e4, h4, w4⟩ := F_cmp hc (FS.mk F0 F1 D3)
    exact ⟨s4, _, s1, e1, s2, e2, s3, e3, e4, h4, ((w1.tr (rd_pd w2)).tr (rd_pd w3)).tr w4⟩
  obtain ⟨ds', v1, s2, e1, s4, e2, s6, e3, e4, h4, w4⟩ := key
  refine ⟨ds', ?_, h4, w4⟩
  unfold cmpD at e4
  cases dk with
  | zero =>
    rw [f_Rd_fact, e1, bnd2_t, e2, bnd2_t]
    simp only [jn_e, if_true]
    rw [e3, bnd2_t]
    simp only [if_true]
    exact e4
  | succ dk =>
    rw [f_Rd_fact, e1, bnd2_t, e2, bnd2_t]
    simp only [jn_e, if_true]
    rw [e3, bnd2_t]
    simp only [if_true]
    exact e4
theorem E_testL (hc : PC κ a ta A t iw) {dk dp : Nat} (hF : FactP κ a ta A iw q t n T dk) (hdk : dp + dk = 10) (K : Nat) : ∀ (r pd pr m dd dc d x4 : Nat) (W B : Bool) (Ld Lr R : List (Nat × Nat)) (O : List Nat) (ds rs : AS), r = n - pd → PS κ ds rs a ta A iw q t n T pd pr (Ld ++ (R ++ pc false B)) (Lr ++ R) m → tw W (R ++ pc false B) → OST rs q (O ++ pl W B) dp → bas O → (Ld.length ≤ K ∧ Lr.length + O.length ≤ K) → K + R.length + (pc W B).length ≤ pd → x4 + 1 ≤ pd → 1000 ≤ dd + pd → 1000 ≤ dc + pd → 1000 ≤ d + pd →
    TOUT κ a ta A iw q t n T O dp K Ld Lr pd (L_Rd_test_12 κ iw (f_Rd_fact κ iw dk) dd a (nI dp) (if W then 1 else 0) 1 (nI x4) ds) (CL κ dc d q rs) ds rs ∨
    BADB κ a ta A iw q t n T (L_Rd_test_12 κ iw (f_Rd_fact κ iw dk) dd a (nI dp) (if W then 1 else 0) 1 (nI x4) ds) (CL κ dc d q rs) ds rs := by
  intro r
  induction r using Nat.strongRecOn with
  | ind r ih =>
    intro pd pr m dd dc d x4 W B Ld Lr R O ds rs hr h hw hO hb hl1 hl2 hx4 hdd hdc hd
    have h' := h
    obtain ⟨⟨hD, hC⟩, hR, hsk, hm, hv, hvc⟩ := h'
    obtain ⟨hpn, hn⟩ := hD.m
    have hlo := skp_lo (T := T) hpn
    have hss := skp_skp (T := T) hpn
    have hplen := pc_len W B
    have hplen2 := pc_len false B
    have hlB : (pc false B).length ≤ (pc W B).length := by cases W <;> cases B <;> decide
    have ll1 : (Ld ++ (R ++ pc false B)).length = Ld.length + R.length + (pc false B).length := by simp only [List.length_append]; omega
    have ll2 : (Lr ++ R).length = Lr.length + R.length := List.length_append
    have llO : (O ++ pl W B).length = O.length + (pc W B).length := by rw [List.length_append, hplen.2]
    have hwl := wen_lo (T := T) hlo.2
    obtain ⟨dd, rfl⟩ : ∃ e, dd = e + 2 := ⟨dd - 2, by omega⟩
    obtain ⟨dc, rfl⟩ : ∃ e, dc = e + 1 := ⟨dc - 1, by omega⟩
    obtain ⟨d, rfl⟩ : ∃ e, d = e + 1 := ⟨d - 1, by omega⟩
    have x400 : ¬ (400 : Int32) ≤ nI x4 := nI_ge (b := 400) (by omega) (by decide)
    rw [L_Rd_test_12, if_neg x400, if_neg (show ¬ (1 : Int32) = 0 by decide)]
    obtain ⟨s1, e1, h1, w1⟩ := d_takesW hD.1 (i := 4) (by decide)
    rw [wRs_1 (cs := [97, 110, 100]) rfl] at e1 h1
    have hnq : ∀ cs, wnx T n pr cs = wnx T n pd cs := fun cs => wnx_e hsk.symm cs
    -- the sign at the next place is a letter
    have letter : ∀ cs c, wgd (c :: cs) = true → wnx T n pd (c :: cs) = true → skp T n pd < n ∧ skp T n pd < wen T n (skp T n pd) ∧ nxt T n pr ≠ 93 := fun cs c g z => by
      have e := of_decide_eq_true z
      have g3 := wgd_l g
      have hlt : skp T n pd < n := by have := wnx_lt z; omega
      refine ⟨hlt, by have := wnx_lt z; omega, ?_⟩
      unfold nxt
      rw [← hsk, if_pos hlt]
      have h0 := e.2 0 g3.1
      rw [Nat.add_zero] at h0
      have hb := g3.2.2 0 g3.1
      have hT := (hD.1.1.2.2.2.2.1 _ hlt).2
      intro zz
      have := (nI_eq (a := T (skp T n pd)) (b := 93) (by omega) (by decide)).mp zz
      omega
    by_cases kA : wnx T n pd [97, 110, 100] = true
    · -- and
      obtain ⟨hlt, hwe, hn93⟩ := letter _ _ rfl kA
      rw [if_pos kA] at e1 h1
      have D1 := hD.of h1 w1
      have C1 := hC.rd hc w1
      rw [e1, bnd2_t]
      obtain ⟨r1, g1, k1, v1⟩ := r_clNo (κ := κ) (dc := dc) (d := d + 1) hR hn93
      have O1 := hO.rq v1
      obtain ⟨r2, g2, k2, o2, v2⟩ := r_restAnd (κ := κ) hc (d := d) k1 O1 hb (by omega) (by omega) (by rw [wnx_e (skp_skp (T := T) hR.1.2.2.1), hnq]; exact kA)
      rw [skp_skp (T := T) hR.1.2.2.1, ← hsk] at k2
      rw [g1, g2, if_neg (show ¬ (1 : Int32) = 0 by decide)]
      have hP : PS κ s1 r2 a ta A iw q t n T (wen T n (skp T n pd)) (wen T n (skp T n pd)) (Ld ++ (R ++ pc false B)) (Lr ++ (R ++ pc false B)) m := ⟨⟨D1, C1⟩, by rw [← List.append_assoc]; exact k2, rfl, hm, hv, hvc⟩
      have hw2 := wnx_lt kA
      simp only [List.length_cons, List.length_nil] at hw2
      have hlO2 : (O ++ pl W true).length = O.length + (pl W true).length := List.length_append
      have hlW : (pl W true).length ≤ (pc W B).length + 1 := by cases W <;> cases B <;> decide
      have wD1 : Same (pdW a A) ds s1 := rd_pd w1
      have wR2 : Same (pbW q t) rs r2 := (rq_pb v1).tr v2
      rcases hF dp (wen T n (skp T n pd)) (wen T n (skp T n pd)) m FU d _ _ _ s1 r2 hdk hP o2 (by omega) (by rw [List.length_append, List.length_append, List.length_append]; omega) (by unfold FU; omega) (by omega) with ⟨ds3, rs3, R3, pd3, pr3, m3, sf, dc3, d3, a1, a2, a3, a4, a5, a6, a7, ⟨f1, f2, f3⟩, a8, a9⟩ | ⟨ds3, rs3, F, a1, a2, a3, a4, a5, a6⟩
      · obtain ⟨⟨D3, C3⟩, Q3, sk3, mm3, v3, vc3⟩ := a3
        have hpn3 := D3.m.1
        have l31 : (Ld ++ (R ++ pc false B) ++ R3).length = Ld.length + R.length + (pc false B).length + R3.length := by rw [List.length_append, ll1]
        obtain ⟨sf, rfl⟩ : ∃ e, sf = e + 1 := ⟨sf - 1, by omega⟩
        rw [a1, bnd_t, D3.2.1, bnd_t, grd_t hc.2.2.1, a2]
        have w4 := d_add_same (κ := κ) ds3 A 12 0
        have C4 := d_add (κ := κ) C3 (by omega) (12, 0) (y := 12) (z := 0) rfl rfl
        have hP4 : PS κ (f_Cd_add κ A 12 0 ds3) rs3 a ta A iw q t n T pd3 pr3 (Ld ++ ((R ++ pc false B ++ R3) ++ pc false true)) (Lr ++ (R ++ pc false B ++ R3)) m3 := by
          refine ⟨⟨D3.cd hc w4, ?_⟩, ?_, sk3, mm3, ?_, ?_⟩
          · have : Ld ++ ((R ++ pc false B ++ R3) ++ pc false true) = Ld ++ (R ++ pc false B) ++ R3 ++ [(12, 0)] := by rw [show pc false true = [(12, 0)] from rfl]; simp only [List.append_assoc]
            rw [this]; exact C4
          · have : Lr ++ (R ++ pc false B ++ R3) = Lr ++ (R ++ pc false B) ++ R3 := by simp only [List.append_assoc]
            rw [this]; exact Q3
          · have : Ld ++ ((R ++ pc false B ++ R3) ++ pc false true) = Ld ++ (R ++ pc false B) ++ R3 ++ [(12, 0)] := by rw [show pc false true = [(12, 0)] from rfl]; simp only [List.append_assoc]
            rw [this]
            intro x hx
            rw [List.mem_append, List.mem_singleton] at hx
            rcases hx with hx | rfl
            · exact v3 x hx
            · exact ⟨by decide, by decide⟩
          · have : Ld ++ ((R ++ pc false B ++ R3) ++ pc false true) = Ld ++ (R ++ pc false B) ++ R3 ++ [(12, 0)] := by rw [show pc false true = [(12, 0)] from rfl]; simp only [List.append_assoc]
            rw [this, vcn_app]
            have : vcn [(12, 0)] = 0 := rfl
            omega
        have lW0 : (pc W true).length ≤ (pc W B).length + 1 := by cases W <;> cases B <;> decide
        have hK : K3 κ (sf + 1) dc3 d3 q rs3 = CL κ dc3 d3 q rs3 := by
          unfold K3
          rw [r_settle3 (κ := κ) (W := W) (B := true) (e := sf) a5 hb (by omega), bnd_t]
        rw [hK, nI_1]
        have lR : (R ++ pc false B ++ R3).length = R.length + (pc false B).length + R3.length := by rw [List.length_append, List.length_append]
        have lW1 : (pc W true).length ≤ (pc W B).length + 1 := by cases W <;> cases B <;> decide
        have lW2 : (pc W true).length = (pc W false).length + 1 := by cases W <;> rfl
        have lW3 : (pc W B).length = (pc W false).length + (pc false B).length := by cases W <;> cases B <;> rfl
        rcases ih (n - pd3) (by omega) pd3 pr3 m3 (dd + 1) dc3 d3 (x4 + 1) W true Ld Lr (R ++ pc false B ++ R3) O _ rs3 rfl hP4 (by rw [show pc false true = [(12, 0)] from rfl]; exact tw_and hw a4) a5 hb hl1 (by omega) (by omega) (by omega) (by omega) (by omega) with ⟨ds', rs', R', W', B', pd', pr', m', dc', d', b1, b2, b3, b4, b5, b6, b7, b8, b9, b10, b11⟩ | ⟨ds', rs', F, b1, b2, b3, b4, b5, b6⟩
        · left
          exact ⟨ds', rs', R', W', B', pd', pr', m', dc', d', b1, b2, b3, b4, b5, b6, by omega, b8, b9, ((wD1.tr a8).tr (cd_pd w4)).tr b10, (wR2.tr a9).tr b11⟩
        · right
          exact ⟨ds', rs', F, b1, b2, b3, b4, ((wD1.tr a8).tr (cd_pd w4)).tr b5, (wR2.tr a9).tr b6⟩
      · right
        rw [a1, bnd_t]
        obtain ⟨s4, e4, h4, w4⟩ := F_add hc a2 12 0 (fun s => L_Rd_test_12 κ iw (f_Rd_fact κ iw dk) (dd + 1) a (nI dp) (if W then 1 else 0) 1 (nI x4 + 1) s)
        rw [e4, nI_1]
        obtain ⟨s5, e5, h5, w5⟩ := F_testL hc (Ff := f_Rd_fact κ iw dk) h4 (nI dp) (if W then 1 else 0) (x4 := x4 + 1) (by omega) (dd - 1)
        rw [show dd - 1 + 2 = dd + 1 by omega] at e5
        exact ⟨s5, rs3, F, e5, h5, a3, a4, ((wD1.tr a5).tr w4).tr w5, wR2.tr a6⟩
    · -- no and
      have kA' : wnx T n pd [97, 110, 100] = false := Bool.eq_false_iff.mpr kA
      rw [if_neg kA] at e1 h1
      have D1 := hD.of h1 w1
      have C1 := hC.rd hc w1
      rw [e1, bnd2_t]
      simp only [if_true, jn_e]
      -- or is put
      obtain ⟨s2, D2, C2, hcd, fw⟩ : ∃ s2, DR κ s2 a ta A iw n T (skp T n pd) 0 (nI m) ∧ CDL s2 A (Ld ++ (R ++ pc W B)) ∧ (∀ (X : AS → Option AS), (if (if W then (1 : Int32) else 0) = 0 then X s1 else bnd (gr s1 a 5) (fun c5 => grd (ly κ c5 = (0, 4)) (X (f_Cd_add κ c5 13 0 s1)))) = X s2) ∧ Same (pdW a A) ds s2 := by
        cases W with
        | false =>
          refine ⟨s1, D1, C1, fun X => by rw [if_neg (show ¬ (false = true) by decide), if_pos rfl], rd_pd w1⟩
        | true =>
          have hlp : (pc true B).length = (pc false B).length + 1 := by cases B <;> rfl
          have w3 := d_add_same (κ := κ) s1 A 13 0
          refine ⟨f_Cd_add κ A 13 0 s1, D1.cd hc w3, ?_, fun X => by rw [if_pos rfl, if_neg (show ¬ (1 : Int32) = 0 by decide), D1.2.1, bnd_t, grd_t hc.2.2.1], (rd_pd w1).tr (cd_pd w3)⟩
          have := d_add (κ := κ) C1 (by omega) (13, 0) (y := 13) (z := 0) rfl rfl
          rw [pc_B true B, if_pos rfl]
          simpa only [List.append_assoc] using this
      have hX := hcd (fun s8 => bnd2 (f_Rd_takesWord κ a 5 s8) (fun v9 s10 => if v9 = 0 then L_Rd_test_12 κ iw (f_Rd_fact κ iw dk) (dd + 1) a (nI dp) v9 v9 (nI x4 + 1) s10 else bnd (f_Rd_fact κ iw dk a (nI dp) s10) (fun s11 => L_Rd_test_12 κ iw (f_Rd_fact κ iw dk) (dd + 1) a (nI dp) v9 v9 (nI x4 + 1) s11)))
      rw [hX]
      have lpc : (Ld ++ (R ++ pc W B)).length = Ld.length + R.length + (pc W B).length := by simp only [List.length_append]; omega
      have hvw : (∀ x, x ∈ Ld ++ (R ++ pc W B) → x.1 < 14 ∧ x.2 < 100000) ∧ vcn (Ld ++ (R ++ pc W B)) ≤ m := by
        rw [← List.append_assoc] at hv hvc ⊢
        rw [vcn_app] at hvc ⊢
        refine ⟨fun x hx => ?_, by rw [(pc_ok W B).2]; omega⟩
        rw [List.mem_append] at hx
        rcases hx with hx | hx
        · exact hv x (List.mem_append_left _ hx)
        · exact (pc_ok W B).1 x hx
      have hTT : TestR (R ++ pc W B) := by
        have := tw_or hw
        rw [pc_B W B]
        simpa only [List.append_assoc] using this
      obtain ⟨s3, e3, h3, w3⟩ := d_takesW D2.1 (i := 5) (by decide)
      rw [wRs_1 (cs := [111, 114]) rfl, wnx_e hss] at e3 h3
      rw [hss] at h3
      rw [e3, bnd2_t]
      by_cases kO : wnx T n pd [111, 114] = true
      · -- or
        obtain ⟨hlt, hwe, hn93⟩ := letter _ _ rfl kO
        rw [if_pos kO] at h3 ⊢
        have D3 := D2.of h3 w3
        have C3 := C2.rd hc w3
        simp only []
        rw [if_neg (show ¬ (1 : Int32) = 0 by decide)]
        obtain ⟨r1, g1, k1, v1⟩ := r_clNo (κ := κ) (dc := dc) (d := d + 1) hR hn93
        have O1 := hO.rq v1
        obtain ⟨r2, g2, k2, o2, v2⟩ := r_restOr (κ := κ) hc (d := d) k1 O1 hb (by omega) (by omega) (by rw [wnx_e (skp_skp (T := T) hR.1.2.2.1), hnq]; exact kO)
        rw [skp_skp (T := T) hR.1.2.2.1, ← hsk] at k2
        rw [g1, g2]
        have hP : PS κ s3 r2 a ta A iw q t n T (wen T n (skp T n pd)) (wen T n (skp T n pd)) (Ld ++ (R ++ pc W B)) (Lr ++ (R ++ pc W B)) m := ⟨⟨D3, C3⟩, by rw [← List.append_assoc]; exact k2, rfl, hm, hvw.1, hvw.2⟩
        have hw2 := wnx_lt kO
        simp only [List.length_cons, List.length_nil] at hw2
        have hlO2 : (O ++ pl true false).length = O.length + 1 := List.length_append
        have wD1 : Same (pdW a A) ds s3 := fw.tr (rd_pd w3)
        have wR2 : Same (pbW q t) rs r2 := (rq_pb v1).tr v2
        rcases hF dp (wen T n (skp T n pd)) (wen T n (skp T n pd)) m FU d _ _ _ s3 r2 hdk hP o2 (by omega) (by rw [List.length_append, List.length_append]; omega) (by unfold FU; omega) (by omega) with ⟨ds3, rs3, R3, pd3, pr3, m3, sf, dc3, d3, a1, a2, a3, a4, a5, a6, a7, ⟨f1, f2, f3⟩, a8, a9⟩ | ⟨ds3, rs3, F, a1, a2, a3, a4, a5, a6⟩
        · have hpn3 := a3.1.1.m.1
          obtain ⟨sf, rfl⟩ : ∃ e, sf = e + 1 := ⟨sf - 1, by omega⟩
          rw [a1, bnd_t, a2]
          have hP4 : PS κ ds3 rs3 a ta A iw q t n T pd3 pr3 (Ld ++ ((R ++ pc W B ++ R3) ++ pc false false)) (Lr ++ (R ++ pc W B ++ R3)) m3 := by
            have e1 : Ld ++ ((R ++ pc W B ++ R3) ++ pc false false) = Ld ++ (R ++ pc W B) ++ R3 := by rw [show pc false false = [] from rfl, List.append_nil]; simp only [List.append_assoc]
            have e2 : Lr ++ (R ++ pc W B ++ R3) = Lr ++ (R ++ pc W B) ++ R3 := by simp only [List.append_assoc]
            rw [e1, e2]; exact a3
          have lW0 : (pc true false).length = 1 := rfl
          have hK : K3 κ (sf + 1) dc3 d3 q rs3 = CL κ dc3 d3 q rs3 := by
            unfold K3
            rw [r_settle3 (κ := κ) (W := true) (B := false) (e := sf) a5 hb (by omega), bnd_t]
          rw [hK, nI_1]
          have lR : (R ++ pc W B ++ R3).length = R.length + (pc W B).length + R3.length := by rw [List.length_append, List.length_append]
          rcases ih (n - pd3) (by omega) pd3 pr3 m3 (dd + 1) dc3 d3 (x4 + 1) true false Ld Lr (R ++ pc W B ++ R3) O _ rs3 rfl hP4 (by rw [show pc false false = [] from rfl, List.append_nil]; exact ⟨_, _, rfl, hTT, a4⟩) a5 hb hl1 (by rw [show (pc true false).length = 1 from rfl]; omega) (by omega) (by omega) (by omega) (by omega) with ⟨ds', rs', R', W', B', pd', pr', m', dc', d', b1, b2, b3, b4, b5, b6, b7, b8, b9, b10, b11⟩ | ⟨ds', rs', F, b1, b2, b3, b4, b5, b6⟩
          · left
            exact ⟨ds', rs', R', W', B', pd', pr', m', dc', d', b1, b2, b3, b4, b5, b6, by omega, b8, b9, (wD1.tr a8).tr b10, (wR2.tr a9).tr b11⟩
          · right
            exact ⟨ds', rs', F, b1, b2, b3, b4, (wD1.tr a8).tr b5, (wR2.tr a9).tr b6⟩
        · right
          rw [a1, bnd_t, nI_1]
          obtain ⟨s5, e5, h5, w5⟩ := F_testL hc (Ff := f_Rd_fact κ iw dk) a2 (nI dp) 1 (x4 := x4 + 1) (by omega) (dd - 1)
          rw [show dd - 1 + 2 = dd + 1 by omega] at e5
          exact ⟨s5, rs3, F, e5, h5, a3, a4, (wD1.tr a5).tr w5, wR2.tr a6⟩
      · -- the test is over
        left
        have kO' : wnx T n pd [111, 114] = false := Bool.eq_false_iff.mpr kO
        rw [if_neg kO] at h3 ⊢
        have D3 := D2.of h3 w3
        have C3 := C2.rd hc w3
        simp only [if_true]
        rw [L_Rd_test_12, if_pos (show (0 : Int32) = 0 from rfl), ite_self]
        refine ⟨s3, rs, R, W, B, skp T n pd, pr, m, dc + 1, d + 1, rfl, rfl, ⟨⟨D3, C3⟩, hR, by rw [hss]; exact hsk, hm, hvw.1, hvw.2⟩, hTT, hO, ⟨by rw [wnx_e hss]; exact kA', by rw [wnx_e hss]; exact kO'⟩, hlo.1, by omega, ⟨by omega, by omega⟩, fw.tr (rd_pd w3), Same.rf _ _⟩
/-- a whole test -/
theorem E_test (hc : PC κ a ta A t iw) {dk dp : Nat} (hF : FactP κ a ta A iw q t n T dk) (hdk : dp + dk = 10) {pd pr m df d : Nat} {Ld Lr : List (Nat × Nat)} {O : List Nat} {ds rs : AS} (h : PS κ ds rs a ta A iw q t n T pd pr Ld Lr m) (hO : OST rs q O dp) (hb : bas O) (hl1 : Ld.length ≤ pd) (hl2 : Lr.length + O.length ≤ pd) (hdf : 1000 ≤ df + pd) (hd : 1000 ≤ d + pd) :
    (∃ ds' rs' R W B pd' pr' m' dc d', g_Rd_test κ iw (f_Rd_fact κ iw dk) a (nI dp) ds = some ds' ∧ RF κ df d q rs = CL κ dc d' q rs' ∧ PS κ ds' rs' a ta A iw q t n T pd' pr' (Ld ++ (R ++ pc W B)) (Lr ++ R) m' ∧ TestR (R ++ pc W B) ∧ OST rs' q (O ++ pl W B) dp ∧ (wnx T n pd' [97, 110, 100] = false ∧ wnx T n pd' [111, 114] = false) ∧ pd < pd' ∧ pd + R.length + (pc W B).length ≤ pd' ∧ (1000 ≤ dc + pd' ∧ 1000 ≤ d' + pd') ∧ Same (pdW a A) ds ds' ∧ Same (pbW q t) rs rs') ∨
    BADB κ a ta A iw q t n T (g_Rd_test κ iw (f_Rd_fact κ iw dk) a (nI dp) ds) (RF κ df d q rs) ds rs := by
  unfold g_Rd_test
  rcases hF dp pd pr m df d Ld Lr O ds rs hdk h hO hl1 hl2 hdf hd with ⟨ds3, rs3, R3, pd3, pr3, m3, sf, dc3, d3, a1, a2, a3, a4, a5, a6, a7, ⟨f1, f2, f3⟩, a8, a9⟩ | ⟨ds3, rs3, F, a1, a2, a3, a4, a5, a6⟩
  · obtain ⟨hpn3, hn⟩ := a3.1.1.m
    obtain ⟨sf, rfl⟩ : ∃ e, sf = e + 1 := ⟨sf - 1, by omega⟩
    rw [a1, bnd_t, a2]
    have hO3 : OST rs3 q (O ++ pl false false) dp := by rw [show O ++ pl false false = O from List.append_nil O]; exact a5
    have hP4 : PS κ ds3 rs3 a ta A iw q t n T pd3 pr3 (Ld ++ (R3 ++ pc false false)) (Lr ++ R3) m3 := by rw [show R3 ++ pc false false = R3 from List.append_nil R3]; exact a3
    have hK : K3 κ (sf + 1) dc3 d3 q rs3 = CL κ dc3 d3 q rs3 := by
      unfold K3
      have hle : O.length < 400 := by omega
      rw [r_stopB (κ := κ) (e := sf) a5 hb (by decide) (by decide) (X := 3) (x1 := 3) rfl hle, bnd_t]
    rw [hK]
    rcases E_testL (κ := κ) (q := q) (T := T) hc hF hdk pd (n - pd3) pd3 pr3 m3 FU dc3 d3 0 false false Ld Lr R3 O ds3 rs3 rfl hP4 (by rw [show R3 ++ pc false false = R3 from List.append_nil R3]; exact a4) hO3 hb ⟨hl1, hl2⟩ (by rw [show (pc false false).length = 0 from rfl]; omega) (by omega) (by unfold FU; omega) (by omega) (by omega) with ⟨ds', rs', R', W', B', pd', pr', m', dc', d', b1, b2, b3, b4, b5, b6, b7, b8, b9, b10, b11⟩ | ⟨ds', rs', F, b1, b2, b3, b4, b5, b6⟩
    · left
      exact ⟨ds', rs', R', W', B', pd', pr', m', dc', d', b1, b2, b3, b4, b5, b6, by omega, b8, b9, a8.tr b10, a9.tr b11⟩
    · right
      exact ⟨ds', rs', F, b1, b2, b3, b4, a8.tr b5, a9.tr b6⟩
  · right
    rw [a1, bnd_t]
    obtain ⟨s5, e5, h5, w5⟩ := F_testL hc (Ff := f_Rd_fact κ iw dk) a2 (nI dp) 0 (x4 := 0) (by omega) (FU - 2)
    exact ⟨s5, rs3, F, e5, h5, a3, a4, a5.tr w5, a6⟩
end FactRun
