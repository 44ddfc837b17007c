/-! feed, end, text, sheet: both classes -/
def fdD (κ : Ko) (p j : Nat) : Prop := p = kB (kt κ) + 1 ∨ p = kB (kt κ) ∧ j = 1
def fdQ (κ : Ko) (p j : Nat) : Prop := p = QQ κ + 1 ∨ p = QQ κ ∧ j = 1
section Tape4
variable {κ : Ko} {C C' : Nat → Nat} {n m n' : Nat} {T T' : Nat → Nat} {dt rt dt' rt' : AS} {W V : Nat → Nat → Prop}
theorem TXI.frg (h : TXI κ dt rt (QQ κ) C) (hd : Same W dt dt') (hr : Same V rt rt') (nd : ∀ p j, p = kB (kt κ) + 7 ∨ kB (kt κ) + 70 ≤ p ∧ p < kB (kt κ) + 232 → ¬ W p j) (nv : ∀ p j, QQ κ + 2 ≤ p → p ≤ QQ κ + 10 → ¬ V p j) : TXI κ dt' rt' (QQ κ) C := by
  obtain ⟨h0, h1, h2, h3, h4⟩ := h
  have c6 : ∀ s, s < 4 → C s ≤ 6 := fun s hs => (h0 s hs).1
  refine ⟨fun s hs => ⟨(h0 s hs).1, ?_, ?_⟩, fun k hk => ?_, fun k hk => ?_, fun k hk => ?_, fun k hk => ?_⟩
  · rw [(hd _ _ (nd _ _ (Or.inl rfl))).1]; exact (h0 s hs).2.1
  · rw [(hr _ _ (nv _ _ (by omega) (by omega))).1]; exact (h0 s hs).2.2
  · have := c6 0 (by decide)
    exact (h1 k hk).of hd hr (fun p j x1 x2 => nd _ _ (by unfold LA at x1 x2; omega)) (fun p j x => nv _ _ (by unfold tgQ at x; omega) (by unfold tgQ at x; omega))
  · have := c6 1 (by decide)
    exact (h2 k hk).of hd hr (fun p j x1 x2 => nd _ _ (by unfold DA at x1 x2; omega)) (fun p j x => nv _ _ (by unfold tgQ at x; omega) (by unfold tgQ at x; omega))
  · have := c6 2 (by decide)
    exact (h3 k hk).of hd hr (fun p j x1 x2 => nd _ _ (by unfold RA at x1 x2; omega)) (fun p j x => nv _ _ (by unfold tgQ at x; omega) (by unfold tgQ at x; omega))
  · have := c6 3 (by decide)
    exact (h4 k hk).of2 hd hr (fun p j x => nd _ _ (by unfold SA at x; omega)) (fun p j x => nv _ _ (by unfold tgS at x; omega) (by unfold tgS at x; omega))
theorem SHT.mono {a : Nat} {S : Nat → Int32} {c c' : Nat} (h : SHT κ dt a S c) (hc : c ≤ c') : SHT κ dt a S c' := ⟨h.1, h.2.1, h.2.2.1, h.2.2.2.1, Nat.lt_of_lt_of_le h.2.2.2.2 hc⟩
theorem GRc.txt (h : GRc κ C n T m dt rt) (hd : Same (fun p j => txD κ p j ∨ p = kB (kt κ) + 1) dt dt') (hr : Same (fun p j => txQ (QQ κ) p j ∨ p = QQ κ + 1) rt rt') (hI : TXI κ dt' rt' (QQ κ) C') (hC : ∀ i, i < 4 → C i ≤ C' i) (hT : TAP κ dt' rt' (QQ κ) n' T') : GRc κ C' n' T' m dt' rt' := by
  obtain ⟨⟨h1, h2, h3, h4, h5, h6, h7, h8, h9⟩, hS⟩ := h
  refine ⟨⟨h1.fr (fun p j x1 x2 => (hd _ _ (fun z => by unfold txD at z; omega)).2.2), hI, hT, h4.fr hd (fun p j x z => by unfold txD at z; omega), h5, ?_, ?_, fun p hp => ?_, fun k hk => ?_⟩, fun i hi => ?_⟩
  · rw [(hd _ _ (fun z => by unfold txD at z; omega)).1]; exact h6
  · rw [(hr _ _ (fun z => by unfold txQ at z; omega)).1]; exact h7
  · rw [(hd _ _ (fun z => by unfold txD at z; omega)).1]; exact h8 p hp
  · obtain ⟨a1, a2, a3⟩ := (h9 k hk).fr hk hd hr (fun p j x1 x2 z => by unfold txD at z; omega) (fun p j x1 x2 z => by unfold txQ at z; omega)
    refine ⟨a1, a2, fun z => ?_⟩
    obtain ⟨mk, g1, g2, g3, g4⟩ := a3 z
    exact ⟨mk, g1, g2, g3, fun i hi => (g4 i hi).mono (hC 0 (by decide))⟩
  · have er : rw_ rt' (QQ κ) i = rw_ rt (QQ κ) i := rw_fr rfl hr (fun j z => by unfold txQ at z; omega)
    rw [er]
    exact ((hS i hi).fr hd (fun p j x1 x2 z => by unfold txD at z; unfold HA at x1 x2; omega)).mono (hC 0 (by decide))
theorem tx_low {p j : Nat} (h : txD κ p j ∨ p = kB (kt κ) + 1) : p < QQ κ := by unfold txD at h; unfold QQ; omega
theorem tx_hig {p j : Nat} (h : txQ (QQ κ) p j ∨ p = QQ κ + 1) : QQ κ ≤ p := by unfold txQ at h; omega
theorem x_text (h : GRc κ C n T m dt rt) (x : Int32) : OUT κ dt rt (f_X_text κ (kB (kt κ)) x dt) (f_R_text κ (QQ κ) x rt) := by
  obtain ⟨v, d', r', C', n', e1, e2, h1, h2, h3, h4, h5, h6⟩ := q_text h.1.1 h.1.2.1 h.1.2.2.1 x
  refine ⟨v, d', r', e1, e2, ⟨C', n', T, m, h.txt (h5.mono (fun _ _ z => Or.inl z)) (h6.mono (fun _ _ z => Or.inl z)) h1 h2 h4⟩, h5.mono (fun p j z => tx_low (Or.inl z)), h6.mono (fun p j z => tx_hig (Or.inl z))⟩
theorem fd_tx {p j : Nat} (h : fdD κ p j) : txD κ p j ∨ p = kB (kt κ) + 1 := by unfold fdD at h; unfold txD; omega
theorem fq_tx {p j : Nat} (h : fdQ κ p j) : txQ (QQ κ) p j ∨ p = QQ κ + 1 := by unfold fdQ at h; unfold txQ; omega
theorem GRc.tap (h : GRc κ C n T m dt rt) (hd : Same (fdD κ) dt dt') (hr : Same (fdQ κ) rt rt') (hT : TAP κ dt' rt' (QQ κ) n' T') : GRc κ C n' T' m dt' rt' :=
  h.txt (hd.mono (fun _ _ z => fd_tx z)) (hr.mono (fun _ _ z => fq_tx z)) (h.1.2.1.frg hd hr (fun p j x z => by unfold fdD at z; omega) (fun p j x1 x2 z => by unfold fdQ at z; omega)) (fun _ _ => Nat.le_refl _) hT
theorem x_end (h : GRc κ C n T m dt rt) (x : Int32) : OUT κ dt rt (some (f_X_end κ (kB (kt κ)) x dt)) (some (f_R_end κ (QQ κ) x rt)) := by
  obtain ⟨⟨a1, a2, a3, a4, a5⟩, b1', ⟨c1, c2, c3⟩, A, iw, d1, d2⟩ := h.1.2.2.1
  unfold f_X_end f_R_end
  simp only [jn_e]
  rw [b1', c1]
  by_cases h0 : x < 0
  · rw [if_pos h0, if_pos h0]; exact h.no _
  · rw [if_neg h0, if_neg h0]
    by_cases h1 : x ≤ nI n
    · obtain ⟨k, rfl, hk⟩ := i_nat_le (Int32.not_lt.mp h0) h1 (by omega)
      rw [if_pos h1, if_pos h1]
      have w1 : Same (fdD κ) dt (ui dt (kB (kt κ)) 1 (nI k)) := (Same.rf _ dt).ui (Or.inr ⟨rfl, rfl⟩)
      have w2 : Same (fdQ κ) rt (ui rt (QQ κ) 1 (nI k)) := (Same.rf _ rt).ui (Or.inr ⟨rfl, rfl⟩)
      refine ⟨_, _, _, rfl, rfl, (h.tap (n' := k) (T' := T) w1 w2 ⟨⟨a1, a2, by omega, fun i hi => ?_, a5⟩, ?_, ⟨?_, by omega, fun i hi => ?_⟩, A, iw, d1, d2⟩).gr, w1.mono (fun p j z => tx_low (fd_tx z)), w2.mono (fun p j z => tx_hig (fq_tx z))⟩
      · rw [gi_ui, if_neg (by omega)]; exact a4 i (by omega)
      · rw [gi_ui, if_pos ⟨rfl, rfl⟩]
      · rw [gi_ui, if_pos ⟨rfl, rfl⟩]
      · rw [gi_ui, if_neg (by omega)]; exact c3 i (by omega)
    · rw [if_neg h1, if_neg h1]; exact h.no _
theorem q_byte (h : TAP κ dt rt (QQ κ) n T) (hn : n < 400) {x s : Int32} (hs : ¬ s < 0) (hb : ∃ t, t < 256 ∧ (((x : Int32).toUInt32 >>> ((s : Int32).toUInt32 &&& Int32.toUInt32 31)).toInt32 &&& 255) = nI t ∧ vp_nar .byte ((x >>> ((s : Int32) &&& 31) : Int32).toInt8.toInt32) = sb t) (d d' : Nat) :
    ∃ (d1 r1 : AS) (T1 : Nat → Nat), L_X_feedNumber_3 κ (d + 1) (kB (kt κ)) x s dt = L_X_feedNumber_3 κ d (kB (kt κ)) x (s + (-8)) d1 ∧ L_R_four_3 κ (d' + 1) (QQ κ) x s rt = L_R_four_3 κ d' (QQ κ) x (s + (-8)) r1 ∧ TAP κ d1 r1 (QQ κ) (n + 1) T1 ∧ Same (fdD κ) dt d1 ∧ Same (fdQ κ) rt r1 := by
  obtain ⟨t, ht, e1, e2⟩ := hb
  obtain ⟨⟨a1, a2, a3, a4, a5⟩, b1', ⟨c1, c2, c3⟩, A, iw, x1, x2⟩ := h
  rw [L_X_feedNumber_3, L_R_four_3, if_neg hs, if_neg hs, e1, e2, b1', c1, gput_n (j := n) rfl hn (by decide), grd_t (vp_in_nI hn (by decide)), nI_clamp (by omega), gi_ui, if_neg (by omega), b1', gi_ui, if_neg (by omega), c1, nI_1]
  refine ⟨_, _, updN T n t, rfl, rfl, ⟨⟨a1, a2, by omega, fun i hi => ?_, a5⟩, ?_, ⟨?_, by omega, fun i hi => ?_⟩, A, iw, x1, x2⟩, ((Same.rf _ dt).ui (Or.inl rfl)).ui (Or.inr ⟨rfl, rfl⟩), ((Same.rf _ rt).ui (Or.inl rfl)).ui (Or.inr ⟨rfl, rfl⟩)⟩
  · rw [gi_ui, if_neg (by omega), gi_ui]
    by_cases e : i = n
    · rw [e, if_pos ⟨rfl, rfl⟩, updN_eq]; exact ⟨rfl, ht⟩
    · rw [if_neg (fun z => e z.2), updN_ne e]; exact a4 i (by omega)
  · rw [gi_ui, if_pos ⟨rfl, rfl⟩]
  · rw [gi_ui, if_pos ⟨rfl, rfl⟩]
  · rw [gi_ui, if_neg (by omega), gi_ui]
    by_cases e : i = n
    · rw [e, if_pos ⟨rfl, rfl⟩, updN_eq]; exact ⟨rfl, ht⟩
    · rw [if_neg (fun z => e z.2), updN_ne e]; exact c3 i (by omega)
theorem q_four (h : TAP κ dt rt (QQ κ) n T) (hn : n + 4 ≤ 400) (x : Int32) : ∃ (d1 r1 : AS) (T1 : Nat → Nat), f_X_feedNumber κ (kB (kt κ)) x dt = some d1 ∧ f_R_four κ (QQ κ) x rt = some r1 ∧ TAP κ d1 r1 (QQ κ) (n + 4) T1 ∧ Same (fdD κ) dt d1 ∧ Same (fdQ κ) rt r1 := by
  have h5 : 5 ≤ FU := by unfold FU; omega
  obtain ⟨d, hd⟩ : ∃ d, FU = d + 5 := ⟨FU - 5, by omega⟩
  obtain ⟨d1, r1, T1, a1, a2, a3, a4, a5⟩ := q_byte h (by omega) (x := x) (s := 24) (by decide) (byte_24 x) (d + 4) (d + 4)
  obtain ⟨d2, r2, T2, b1', b2, b3, b4, b5⟩ := q_byte a3 (by omega) (x := x) (s := 16) (by decide) (byte_16 x) (d + 3) (d + 3)
  obtain ⟨d3, r3, T3, c1, c2, c3, c4, c5⟩ := q_byte b3 (by omega) (x := x) (s := 8) (by decide) (byte_8 x) (d + 2) (d + 2)
  obtain ⟨d4, r4, T4, e1, e2, e3, e4, e5⟩ := q_byte c3 (by omega) (x := x) (s := 0) (by decide) (byte_0 x) (d + 1) (d + 1)
  have s1 : (24 : Int32) + (-8) = 16 := by decide
  have s2 : (16 : Int32) + (-8) = 8 := by decide
  have s3 : (8 : Int32) + (-8) = 0 := by decide
  have s4 : (0 : Int32) + (-8) < 0 := by decide
  refine ⟨d4, r4, T4, ?_, ?_, e3, ((a4.tr b4).tr c4).tr e4, ((a5.tr b5).tr c5).tr e5⟩
  · unfold f_X_feedNumber
    rw [hd, a1, s1, b1', s2, c1, s3, e1, L_X_feedNumber_3, if_pos s4]
  · unfold f_R_four
    rw [hd, a2, s1, b2, s2, c2, s3, e2, L_R_four_3, if_pos s4]
theorem x_feed (h : GRc κ C n T m dt rt) (x1 x2 x3 x4 x5 : Int32) : OUT κ dt rt (f_X_feed κ (kB (kt κ)) x1 x2 x3 x4 x5 dt) (f_R_feed κ (QQ κ) x1 x2 x3 x4 x5 rt) := by
  have hT := h.1.2.2.1
  have e1 := hT.2.1
  have e2 := hT.2.2.1.1
  have hn := hT.2.2.1.2.1
  unfold f_X_feed f_R_feed
  rw [e1, e2, show (20 : Int32) = nI 20 from rfl, nI_add]
  by_cases hc : n + 20 ≤ 400
  · obtain ⟨d1, r1, T1, a1, a2, a3, a4, a5⟩ := q_four hT (by omega) x1
    obtain ⟨d2, r2, T2, b1', b2, b3, b4, b5⟩ := q_four a3 (by omega) x2
    obtain ⟨d3, r3, T3, c1, c2, c3, c4, c5⟩ := q_four b3 (by omega) x3
    obtain ⟨d4, r4, T4, f1, f2, f3, f4, f5⟩ := q_four c3 (by omega) x4
    obtain ⟨d5, r5, T5, g1, g2, g3, g4, g5⟩ := q_four f3 (by omega) x5
    have w1 := (((a4.tr b4).tr c4).tr f4).tr g4
    have w2 := (((a5.tr b5).tr c5).tr f5).tr g5
    have hle : nI (n + 20) ≤ 400 := nI_le (b := 400) hc (by decide)
    rw [if_pos hle, if_pos hle, a1, a2, bnd_t, bnd_t, b1', b2, bnd_t, bnd_t, c1, c2, bnd_t, bnd_t, f1, f2, bnd_t, bnd_t, g1, g2, bnd_t, bnd_t, g3.2.1, g3.2.2.1.1]
    exact ⟨_, _, _, rfl, rfl, (h.tap w1 w2 g3).gr, w1.mono (fun p j z => tx_low (fd_tx z)), w2.mono (fun p j z => tx_hig (fq_tx z))⟩
  · have hle : ¬ nI (n + 20) ≤ 400 := nI_ge (a := 400) (by omega) (by omega)
    rw [if_neg hle, if_neg hle]; exact h.no _
/-- the number of sheets -/
theorem REST.size (h : REST κ C n T m dt rt) {m' : Nat} (hm : m' ≤ 6) (hd : Same (fun p _ => p = kB (kt κ) + 21) dt dt') (hr : Same (fun p j => p = QQ κ ∧ j = 24) rt rt') (e1 : gi dt' (kB (kt κ) + 21) 1 = nI m') (e2 : gi rt' (QQ κ) 24 = nI m') : REST κ C n T m' dt' rt' := by
  obtain ⟨h1, h2, h3, h4, h5, h6, h7, h8, h9⟩ := h
  exact ⟨h1.fr (fun p j x1 x2 => (hd _ _ (fun z => by omega)).2.2), h2.frg hd hr (fun p j x z => by omega) (fun p j x1 x2 z => by omega), h3.fr hd hr (fun p j x z => by omega) (fun p j x z => by omega), h4.fr hd (fun p j x z => by omega), hm, e1, e2, fun p hp => by rw [(hd _ _ (fun z => by omega)).1]; exact h8 p hp, fun k hk => (h9 k hk).fr hk hd hr (fun p j x1 x2 z => by omega) (fun p j x1 x2 z => by omega)⟩
theorem x_sheet (h : GRc κ C n T m dt rt) (x1 x2 x3 x4 : Int32) : OUT κ dt rt (f_X_sheet κ (kB (kt κ)) x1 x2 x3 x4 dt) (f_R_sheet κ (QQ κ) x1 x2 x3 x4 rt) := by
  have hm := h.m6
  have z10 : ¬ (1 : Int32) = 0 := by decide
  have e1 : gi dt (kB (kt κ) + 21) 1 = nI m := h.1.2.2.2.2.2.1
  have e2 := h.1.2.2.2.2.2.2.1
  have eP : f_Pl_size κ (kB (kt κ) + 21) dt = nI m := e1
  unfold f_X_sheet f_R_sheet
  simp only [jn_e, ite_self, if_true, eq_false z10, if_false]
  rw [eP, e2]
  rcases h.lawAt x3 with ⟨l, hl, rfl, d1, d3⟩ | ⟨d1, d3⟩
  · have hc := (h.cnt (s := 0) (by decide)).1
    rw [d1, d3, bnd_t, bnd_t, nulS, grd_t (LA_ly (by omega)), if_neg z10]
    by_cases c1 : wi x1.toInt64 (2 : Int64) (200 : Int64) = 0
    · rw [if_pos c1, if_pos c1, ite_self]; exact h.no _
    · rw [if_neg c1, if_neg c1]
      by_cases c2 : wi x2.toInt64 (2 : Int64) (200 : Int64) = 0
      · rw [if_pos c2, if_pos c2, ite_self]; exact h.no _
      · rw [if_neg c2, if_neg c2]
        by_cases c3 : x4 < 0
        · rw [if_pos c3, if_neg (Int32.not_le.mpr c3), ite_self]; exact h.no _
        · rw [if_neg c3, if_pos (Int32.not_lt.mp c3)]
          by_cases c6 : m = 6
          · subst c6
            rw [if_neg (show ¬ nI 6 < 6 by decide), if_pos (show nI 6 = 6 from rfl)]; exact h.no _
          · have hlt : nI m < 6 := (nI_ltI (b := 6) (by omega) (by decide)).mpr (by omega)
            rw [if_pos hlt, if_neg (show ¬ nI m = 6 from fun z => c6 ((nI_eq (b := 6) (by omega) (by decide)).mp z))]
            have two : ∀ {x : Int32}, ¬ wi x.toInt64 (2 : Int64) (200 : Int64) = 0 → isN x 2 200 := fun {x} hx => by
              have hb := Decidable.not_not.mp (fun z => hx ((wi_t (x := x) (lo := 2) (hi := 200)).mpr z))
              have hb1 := hb.1
              rw [i32le, show (2 : Int32).toInt = 2 from rfl] at hb1
              obtain ⟨p, rfl, hp⟩ := i_nat_le (k := 200) (show (0 : Int32) ≤ x by rw [i32le, show (0 : Int32).toInt = 0 from rfl]; omega) hb.2 (by decide)
              rw [nI_toInt (by omega)] at hb1
              exact ⟨p, rfl, by omega, hp⟩
            obtain ⟨k4, rfl, hk4⟩ := i_nat (Int32.not_lt.mp c3)
            have hok : SOK (begS (rw_ rt (QQ κ) m) x1 x2 (nI l) (nI k4) (nI k4)) := begS_ok (two c1) (two c2) ⟨l, rfl, Nat.zero_le _, by omega⟩ ⟨k4, rfl, Nat.zero_le _, by omega⟩ ⟨k4, rfl, Nat.zero_le _, by omega⟩
            obtain ⟨s1, p1, p2, p3, p4⟩ := d_begin dt (ly_H (κ := κ) (i := m) (by omega)) (rw_ rt (QQ κ) m) x1 x2 (nI l) (nI k4) (nI k4)
            rw [nI_clamp (by omega)] at p1
            obtain ⟨r1, q1, q2, q3⟩ := r_begin (κ := κ) (rt := rt) (q := QQ κ) (s := m) (by omega) x1 x2 (nI l) (nI k4) (nI k4)
            have w1 : Same (rsD κ) dt s1 := p4.mono (fun p j z => Or.inr (by unfold HA at z; omega))
            have w2 : Same (rsQ κ) rt r1 := fun p j hp => ⟨q3.1 p j (fun e => absurd (Or.inr e) hp), q3.2.1 p j, q3.2.2 p j⟩
            have f1 : gi s1 (kB (kt κ) + 21) 1 = nI m := by rw [(p4 _ _ (fun z => by unfold HA at z; omega)).1]; exact e1
            have f2 : gi r1 (QQ κ) 24 = nI m := by rw [q3.1 _ _ (fun e => by omega)]; exact e2
            have hR := (h.1.fr w1 w2).size (m' := m + 1) (by omega) (dt' := ui s1 (kB (kt κ) + 21) 1 (nI (m + 1))) (rt' := ui r1 (QQ κ) 24 (nI (m + 1))) ((Same.rf (fun p _ => p = kB (kt κ) + 21) _).ui rfl) ((Same.rf (fun p j => p = QQ κ ∧ j = 24) _).ui ⟨rfl, rfl⟩) (by rw [gi_ui, if_pos ⟨rfl, rfl⟩]) (by rw [gi_ui, if_pos ⟨rfl, rfl⟩])
            have hS : ∀ i, i < m + 1 → SHT κ (ui s1 (kB (kt κ) + 21) 1 (nI (m + 1))) (HA κ i) (rw_ (ui r1 (QQ κ) 24 (nI (m + 1))) (QQ κ) i) (C 0) := fun i hi => by
              have er : rw_ (ui r1 (QQ κ) 24 (nI (m + 1))) (QQ κ) i = rw_ r1 (QQ κ) i := rw_fr rfl ((Same.rf (fun p j => p = QQ κ ∧ j = 24) r1).ui ⟨rfl, rfl⟩) (fun j z => by omega)
              rw [er]
              refine SHT.fr (W := fun p _ => p = kB (kt κ) + 21) (dt := s1) ?_ ((Same.rf (fun p _ => p = kB (kt κ) + 21) _).ui rfl) (fun p j x1 x2 z => by unfold HA at x1 x2; omega)
              by_cases e : i = m
              · rw [e, q2]
                exact ⟨p2, hok, uok_beg hok begS_7, by rw [p3, begS_3], by rw [begS_2, nI_clamp (by omega)]; exact hl⟩
              · have hs := (h.2 i (by omega)).fr p4 (fun p j x1 x2 z => by unfold HA at z x1 x2; omega)
                have ee : ∀ k, k < 3680 → rw_ r1 (QQ κ) i k = rw_ rt (QQ κ) i k := fun k hk => q3.1 _ _ (fun _ => by omega)
                obtain ⟨g1, g2, g3, g4, g5⟩ := hs
                exact ⟨g1.ext ee (sok_6 g2).2.1 (sok_7 g2).2 ((g2.1.2.2.2.2.2.1).cl (by decide)).2.2, sok_ext g2 ee, uok_ext g2 g3 ee, by rw [ee 3 (by decide)]; exact g4, by rw [ee 2 (by decide)]; exact g5⟩
            have hw5 : ¬ wi (nI m).toInt64 (0 : Int64) (((6 : Int32) - 1 : Int32).toInt64) = 0 := fun z => (wi_t (x := nI m) (lo := 0) (hi := 6 - 1)).mp z ⟨nI_ge0 (by omega), nI_le (b := 5) (by omega) (by decide)⟩
            unfold f_Pl_put
            rw [e1, if_neg hw5, grd_t (vp_in_nI (by omega) (by decide)), nI_clamp (by omega), show kB (kt κ) + 21 + 1 = kB (kt κ) + 22 by omega, h.1.2.2.2.1.1 m (by omega), bnd_t, grd_t (ly_H (by omega)), p1, bnd_t, bnd2_t, q1, bnd_t, f1, f2, nI_1, gi_ui, if_pos ⟨rfl, rfl⟩, gi_ui, if_pos ⟨rfl, rfl⟩]
            refine ⟨_, _, _, rfl, rfl, ⟨C, n, T, m + 1, hR, hS⟩, ?_, ?_⟩
            · exact (p4.mono (fun p j z => by unfold HA at z; unfold QQ; omega)).tr ((Same.rf (fun p _ => p < QQ κ) s1).ui (show kB (kt κ) + 21 < QQ κ by unfold QQ; omega))
            · exact (w2.mono (fun p j z => z.elim (fun y => sc_hig y) (fun y => by omega))).tr ((Same.rf (fun p _ => QQ κ ≤ p) r1).ui (Nat.le_refl _))
  · rw [d1, d3, bnd_t, bnd_t, nulN, if_pos rfl, ite_self, ite_self, ite_self]; exact h.no _
end Tape4
