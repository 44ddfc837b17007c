/-! the call text: the step -/
def slD (κ : Ko) (s c p : Nat) : Prop := s = 0 ∧ LA κ c ≤ p ∧ p ≤ LA κ c + 8 ∨ s = 1 ∧ DA κ c ≤ p ∧ p ≤ DA κ c + 4 ∨ s = 2 ∧ RA κ c ≤ p ∧ p ≤ RA κ c + 7 ∨ s = 3 ∧ SA κ c ≤ p ∧ p ≤ SA κ c + 2
def tsD (κ : Ko) (s c p j : Nat) : Prop := p = kB (kt κ) ∧ j = 1 ∨ p = kB (kt κ) + 2 ∧ 1 ≤ j ∧ j ≤ 6 ∨ p = kB (kt κ) + 7 ∧ j = s ∨ slD κ s c p
def rdD (κ : Ko) (s c p j : Nat) : Prop := p = kB (kt κ) + 2 ∧ 1 ≤ j ∧ j ≤ 6 ∨ slD κ s c p
def tsQ (q s c p j : Nat) : Prop := p = q ∧ (j = 1 ∨ 11 ≤ j ∧ j ≤ 19) ∨ p = q + 2 ∨ p = q + 11 ∨ s < 3 ∧ tgQ q (6 * s + c) p j ∨ s = 3 ∧ tgS q c p j
section Step
variable {κ : Ko} {dt dt' rt rt' : AS} {q s c : Nat} {C : Nat → Nat}
theorem tsD_D (hc : c < 6) {p j : Nat} (hs : s < 4) (h : tsD κ s c p j) : txD κ p j := by
  unfold tsD slD LA DA RA SA at h
  unfold txD
  omega
theorem tsQ_Q {p j : Nat} (h : tsQ q s c p j) : txQ q p j := by
  unfold tsQ tgQ tgS at h
  unfold txQ
  omega
theorem TXI.old (hI : TXI κ dt rt q C) (hs : s < 4) (hc : C s < 6) (hd : Same (tsD κ s (C s)) dt dt') (hr : Same (tsQ q s (C s)) rt rt') :
    (∀ k, k < C 0 → LAWR dt' rt' (LA κ k) q k) ∧ (∀ k, k < C 1 → DOSR dt' rt' (DA κ k) q (6 + k)) ∧ (∀ k, k < C 2 → RULR dt' rt' (RA κ k) q (12 + k)) ∧ (∀ k, k < C 3 → STPR dt' rt' (SA κ k) q k) := by
  obtain ⟨h0, h1, h2, h3, h4⟩ := hI
  have z0 := (h0 0 (by decide)).1
  have z1 := (h0 1 (by decide)).1
  have z2 := (h0 2 (by decide)).1
  have z3 := (h0 3 (by decide)).1
  have hcs : s = 0 ∧ C s = C 0 ∨ s = 1 ∧ C s = C 1 ∨ s = 2 ∧ C s = C 2 ∨ s = 3 ∧ C s = C 3 := by
    have : s = 0 ∨ s = 1 ∨ s = 2 ∨ s = 3 := by omega
    rcases this with z | z | z | z <;> subst z <;> omega
  generalize C s = m at *
  refine ⟨fun k hk => (h1 k hk).of hd hr (fun p j a b z => ?_) (fun p j a z => ?_), fun k hk => (h2 k hk).of hd hr (fun p j a b z => ?_) (fun p j a z => ?_), fun k hk => (h3 k hk).of hd hr (fun p j a b z => ?_) (fun p j a z => ?_), fun k hk => (h4 k hk).of hd hr (fun p j a b z => ?_) (fun p j a z => ?_)⟩
  · unfold tsD slD LA DA RA SA at z; unfold LA at a b; omega
  · unfold tsQ tgQ tgS at z; unfold tgQ at a; omega
  · unfold tsD slD LA DA RA SA at z; unfold DA at a b; omega
  · unfold tsQ tgQ tgS at z; unfold tgQ at a; omega
  · unfold tsD slD LA DA RA SA at z; unfold RA at a b; omega
  · unfold tsQ tgQ tgS at z; unfold tgQ at a; omega
  · unfold tsD slD LA DA RA SA at z; unfold SA at a b; omega
  · unfold tsQ tgQ tgS at z; unfold tgS at a; omega
theorem xtE_v (a0 : Nat) (hs : s < 4) (F : Nat) (hF : F < 4000) (ds : AS) : ∃ dt', xtE κ a0 (nI s) (nI c) (nI F) ds = some ((if F = 0 then nI c else -2 - nI F), dt') ∧ Same (fun p j => p = a0 ∧ j = 1 ∨ p = a0 + 7 ∧ j = s) ds dt' ∧ gi dt' a0 1 = nI 0 ∧ gi dt' (a0 + 7) s = (if F = 0 then nI (c + 1) else gi ds (a0 + 7) s) := by
  unfold xtE
  by_cases hz : F = 0
  · subst hz
    rw [if_pos (show nI 0 = 0 from rfl), if_pos rfl, if_pos rfl, gput_n (i := nI s) (j := s) rfl hs (by decide), nI_1]
    exact ⟨_, rfl, ((Same.rf _ _).ui (by omega)).ui (by omega), by rw [gi_ui, if_neg (fun z => by omega), gi_ui, if_pos ⟨rfl, rfl⟩]; rfl, by rw [gi_ui, if_pos ⟨rfl, rfl⟩]⟩
  · rw [if_neg (nI_ne0 (n := F) (by omega) (by omega)), if_neg hz, if_neg hz]
    exact ⟨_, rfl, (Same.rf _ _).ui (by omega), by rw [gi_ui, if_pos ⟨rfl, rfl⟩]; rfl, by rw [gi_ui, if_neg (fun z => by omega)]⟩
/-- what a text call leaves -/
def TXO (κ : Ko) (dt rt : AS) (q n : Nat) (T : Nat → Nat) (C : Nat → Nat) (x : Int32) : Prop := ∃ v dt' rt' C' n', f_X_text κ (kB (kt κ)) x dt = some (v, dt') ∧ f_R_text κ q x rt = some (v, rt') ∧ TXI κ dt' rt' q C' ∧ (∀ i, i < 4 → C i ≤ C' i) ∧ n' ≤ n ∧ TAP κ dt' rt' q n' T ∧ Same (txD κ) dt dt' ∧ Same (txQ q) rt rt'
theorem TXI.step (hI : TXI κ dt rt q C) {n : Nat} {T : Nat → Nat} (hT : TAP κ dt rt q n T) (hs : s < 4) (hc : C s < 6) {F : Nat} (hF : F < 4000) {ds rs : AS} {A iw : Nat}
    (hd0 : Same (rdD κ s (C s)) dt ds) (hr : Same (tsQ q s (C s)) rt rs) (d0 : gr ds (kB (kt κ) + 2) 0 = some (kB (kt κ) + 1)) (d5 : gr ds (kB (kt κ) + 2) 5 = some A) (d6 : gr ds (kB (kt κ) + 2) 6 = some (kK (kt κ) iw)) (q1 : gi rs q 1 = 0) (q2 : ∀ i, gi rs (q + 2) i = if F = 0 ∧ i = s then nI (C s + 1) else gi rt (q + 2) i)
    (e1 : f_X_text κ (kB (kt κ)) (nI s) dt = xtE κ (kB (kt κ)) (nI s) (nI (C s)) (nI F) ds) (e2 : f_R_text κ q (nI s) rt = some ((if F = 0 then nI (C s) else -2 - nI F), rs))
    (hn : F = 0 → (s = 0 → LAWR ds rs (LA κ (C s)) q (C s)) ∧ (s = 1 → DOSR ds rs (DA κ (C s)) q (6 + C s)) ∧ (s = 2 → RULR ds rs (RA κ (C s)) q (12 + C s)) ∧ (s = 3 → STPR ds rs (SA κ (C s)) q (C s))) : TXO κ dt rt q n T C (nI s) := by
  obtain ⟨dt', x1, x2, x3, x4⟩ := xtE_v (κ := κ) (c := C s) (kB (kt κ)) hs F hF ds
  have hd : Same (tsD κ s (C s)) dt ds := hd0.mono (fun _ _ z => z.elim (fun y => Or.inr (Or.inl y)) (fun y => Or.inr (Or.inr (Or.inr y))))
  have x2' : Same (tsD κ s (C s)) ds dt' := x2.mono (fun _ _ z => by unfold tsD; omega)
  obtain ⟨o1, o2, o3, o4⟩ := hI.old hs hc (hd.tr x2') hr
  have hr0 : Same (fun _ _ => False) rs rs := Same.rf _ _
  have hnw : ∀ p j, kB (kt κ) + 70 ≤ p → ¬ (p = kB (kt κ) ∧ j = 1 ∨ p = kB (kt κ) + 7 ∧ j = s) := fun p j a z => by omega
  have hTl := hT.1.2.2.1
  have hT5 := hT.1.2.2.2
  refine ⟨_, dt', rs, (fun i => if F = 0 ∧ i = s then C s + 1 else C i), 0, by rw [e1, x1], e2, ⟨fun i hi => ?_, fun k hk => ?_, fun k hk => ?_, fun k hk => ?_, fun k hk => ?_⟩, fun i hi => ?_, Nat.zero_le _, ⟨⟨?_, hT.1.2.1, Nat.zero_le _, fun k hk => absurd hk (Nat.not_lt_zero _), hT5.2⟩, x3, ⟨q1, Nat.zero_le _, fun k hk => absurd hk (Nat.not_lt_zero _)⟩, A, iw, ?_, ?_⟩, (hd.tr x2').mono (fun _ _ z => tsD_D hc hs z), hr.mono (fun _ _ z => tsQ_Q z)⟩
  · obtain ⟨i1, i2, i3⟩ := hI.1 i hi
    show (if F = 0 ∧ i = s then C s + 1 else C i) ≤ 6 ∧ _ = nI (if F = 0 ∧ i = s then C s + 1 else C i) ∧ _ = nI (if F = 0 ∧ i = s then C s + 1 else C i)
    rw [q2 i]
    by_cases e : i = s
    · subst e
      rw [x4]
      by_cases hz : F = 0
      · rw [if_pos hz, if_pos ⟨hz, rfl⟩, if_pos ⟨hz, rfl⟩]
        exact ⟨by omega, rfl, rfl⟩
      · rw [if_neg hz, if_neg (fun z => hz z.1), if_neg (fun z => hz z.1)]
        rw [(hd0 _ _ (fun z => by unfold rdD slD LA DA RA SA at z; omega)).1]
        exact ⟨i1, i2, i3⟩
    · rw [if_neg (fun z => e z.2), if_neg (fun z => e z.2), (x2 _ _ (fun z => by omega)).1, (hd _ _ (fun z => by unfold tsD slD LA DA RA SA at z; omega)).1]
      exact ⟨i1, i2, i3⟩
  · replace hk : k < (if F = 0 ∧ 0 = s then C s + 1 else C 0) := hk
    by_cases e : F = 0 ∧ 0 = s
    · rw [if_pos e, ← e.2] at hk
      by_cases ek : k = C 0
      · subst ek
        have := (hn e.1).1 e.2.symm
        rw [← e.2] at this
        exact this.of x2 hr0 (fun p j a b z => hnw p j (by unfold LA at a; omega) z) (fun p j _ z => z)
      · exact o1 k (by omega)
    · rw [if_neg e] at hk
      exact o1 k hk
  · replace hk : k < (if F = 0 ∧ 1 = s then C s + 1 else C 1) := hk
    by_cases e : F = 0 ∧ 1 = s
    · rw [if_pos e, ← e.2] at hk
      by_cases ek : k = C 1
      · subst ek
        have := (hn e.1).2.1 e.2.symm
        rw [← e.2] at this
        exact this.of x2 hr0 (fun p j a b z => hnw p j (by unfold DA at a; omega) z) (fun p j _ z => z)
      · exact o2 k (by omega)
    · rw [if_neg e] at hk
      exact o2 k hk
  · replace hk : k < (if F = 0 ∧ 2 = s then C s + 1 else C 2) := hk
    by_cases e : F = 0 ∧ 2 = s
    · rw [if_pos e, ← e.2] at hk
      by_cases ek : k = C 2
      · subst ek
        have := (hn e.1).2.2.1 e.2.symm
        rw [← e.2] at this
        exact this.of x2 hr0 (fun p j a b z => hnw p j (by unfold RA at a; omega) z) (fun p j _ z => z)
      · exact o3 k (by omega)
    · rw [if_neg e] at hk
      exact o3 k hk
  · replace hk : k < (if F = 0 ∧ 3 = s then C s + 1 else C 3) := hk
    by_cases e : F = 0 ∧ 3 = s
    · rw [if_pos e, ← e.2] at hk
      by_cases ek : k = C 3
      · subst ek
        have := (hn e.1).2.2.2 e.2.symm
        rw [← e.2] at this
        exact this.of x2 hr0 (fun p j a b z => hnw p j (by unfold SA at a; omega) z) (fun p j _ z => z)
      · exact o4 k (by omega)
    · rw [if_neg e] at hk
      exact o4 k hk
  · show C i ≤ (if F = 0 ∧ i = s then C s + 1 else C i)
    by_cases e : F = 0 ∧ i = s
    · rw [if_pos e, e.2]; omega
    · rw [if_neg e]; exact Nat.le_refl _
  · rw [(x2 _ _ (fun z => by omega)).2.2]; exact d0
  · rw [(x2 _ _ (fun z => by omega)).2.2]; exact d5
  · rw [(x2 _ _ (fun z => by omega)).2.2]; exact d6
theorem i_nat {x : Int32} (h : 0 ≤ x) : ∃ m, x = nI m ∧ m < 2 ^ 31 := by
  have h0 : (0 : Int) ≤ x.toInt := Int32.le_iff_toInt_le.mp h
  have h1 := Int32.toInt_lt x
  refine ⟨x.toInt.toNat, Int32.toInt_inj.mp ?_, by omega⟩
  rw [nI_toInt (by omega)]
  omega
theorem i_nat_le {x : Int32} {k : Nat} (h : 0 ≤ x) (hk : x ≤ nI k) (hb : k < 2 ^ 31) : ∃ m, x = nI m ∧ m ≤ k := by
  obtain ⟨m, rfl, hm⟩ := i_nat h
  exact ⟨m, rfl, (nI_ltk (m := m) (k := k) rfl hm hb).2.1.mp hk⟩
theorem wi5 {c : Nat} : wi (nI c).toInt64 (0 : Int64) (5 : Int64) = 0 ↔ ¬ ((0 : Int32) ≤ nI c ∧ nI c ≤ 5) := wi_t (x := nI c) (lo := 0) (hi := 5)
theorem wi3 {x : Int32} : wi x.toInt64 (0 : Int64) (3 : Int64) = 0 ↔ ¬ ((0 : Int32) ≤ x ∧ x ≤ 3) := wi_t (x := x) (lo := 0) (hi := 3)
theorem TXO.no (hI : TXI κ dt rt q C) {n : Nat} {T : Nat → Nat} (hT : TAP κ dt rt q n T) {x : Int32} (e1 : f_X_text κ (kB (kt κ)) x dt = some (-1, dt)) (e2 : f_R_text κ q x rt = some (-1, rt)) : TXO κ dt rt q n T C x :=
  ⟨-1, dt, rt, C, n, e1, e2, hI, fun _ _ => Nat.le_refl _, Nat.le_refl _, hT, Same.rf _ _, Same.rf _ _⟩
theorem dv_rd {m : Nat} {a1 d : Nat} {s1 s2 : AS} (h : Same (dvW (kB (kt κ) + 2) a1 d) s1 s2) (hs : ∀ p, a1 ≤ p → p ≤ a1 + d → slD κ s m p) : Same (rdD κ s m) s1 s2 := h.mono (fun p j z => z.elim (fun y => Or.inl ⟨y.1, y.2⟩) (fun y => Or.inr (hs p y.1 y.2)))
theorem tx_ts {s1 s2 : AS} (hs : s < 3) (h : Same (txW q (6 * s + c)) s1 s2) : Same (tsQ q s c) s1 s2 := h.mono (fun p j z => by
  unfold txW rtX rtW pbW cqW ckW at z
  unfold tsQ tgQ
  omega)
theorem sr_ts {s1 s2 : AS} (h : Same (srW q c) s1 s2) : Same (tsQ q 3 c) s1 s2 := h.mono (fun p j z => by
  unfold srW rsW rqW at z
  unfold tsQ tgS
  omega)
/-- the call text -/
theorem q_text (hK : TXK κ dt) (hI : TXI κ dt rt q C) {n : Nat} {T : Nat → Nat} (hT : TAP κ dt rt q n T) (x : Int32) : TXO κ dt rt q n T C x := by
  by_cases hx : 0 ≤ x ∧ x ≤ 3
  · obtain ⟨s, rfl, hs⟩ := i_nat_le (k := 3) hx.1 hx.2 (by decide)
    obtain ⟨i1, i2, i3⟩ := hI.1 s (by omega)
    have hw3 : ¬ wi (nI s).toInt64 (0 : Int64) (3 : Int64) = 0 := fun z => wi3.mp z hx
    have hnum : xnum (kB (kt κ)) (nI s) dt = nI (C s) := by
      unfold xnum
      rw [if_neg hw3, gat_n (j := s) rfl (by omega) (by decide), i2]
    have hk6 := nI_ltk (m := C s) (k := 6) (y := 6) rfl (by omega) (by decide)
    have hk5 := nI_ltk (m := C s) (k := 5) (y := 5) rfl (by omega) (by decide)
    have hk0 := nI_ltk (m := C s) (k := 0) (y := 0) rfl (by omega) (by decide)
    have er : f_R_text κ q (nI s) rt = if nI (C s) = 6 then some (-1, rt) else txP κ q (nI s) rt := by
      rw [f_text_e, if_neg hw3, grd_t (vp_in_nI (show s < 4 by omega) (by decide)), nI_clamp (show s < 2 ^ 31 by omega), i3]
    have ed := f_xtext_e κ (kB (kt κ)) (nI s) dt
    rw [hnum] at ed
    by_cases hc : C s = 6
    · refine TXO.no hI hT ?_ ?_
      · rw [ed, if_pos (wi5.mpr (fun z => by have := hk5.2.1.mp z.2; omega))]
      · rw [er, if_pos (hk6.2.2.2.2.mpr hc)]
    · have hc6 : C s < 6 := by omega
      rw [if_neg (fun z => wi5.mp z ⟨hk0.2.2.2.1.mpr (Nat.zero_le _), hk5.2.1.mpr (by omega)⟩)] at ed
      rw [if_neg (fun z => hc (hk6.2.2.2.2.mp z))] at er
      obtain ⟨⟨K8, K9, K10, K11⟩, L1, L2, L3, L4, L5, L6⟩ := hK (C s) hc6
      obtain ⟨hTD, hb, hTQ, A, iw, h5, h6⟩ := hT
      have hcl : (nI (C s)).toNatClampNeg = C s := nI_clamp (by omega)
      rw [hcl, K8, K9, K10, K11, bnd_t, bnd_t, bnd_t, bnd_t, grd_t L1, grd_t L3, grd_t L4, grd_t L6, hb] at ed
      have hT : TAP κ dt rt q n T := ⟨hTD, hb, hTQ, A, iw, h5, h6⟩
      have hss : s = 0 ∨ s = 1 ∨ s = 2 ∨ s = 3 := by omega
      rcases hss with rfl | rfl | rfl | rfl
      · rw [if_pos (show nI 0 = 0 from rfl), grd_t (vp_in_nI hc6 (by decide))] at ed
        have hc' : PC κ (kB (kt κ) + 2) (kB (kt κ) + 1) (LA κ (C 0) + 1) (C 0) 0 := ⟨by omega, by unfold LA; omega, L2, Or.inl ⟨hc6, rfl⟩⟩
        obtain ⟨F, ds, rs, t1, t2, t3, t4, t5, t6, t7, t8, t9, u1, u2⟩ := TX_law hc' (by unfold LA; omega) hc6 hTD hTQ i3
        rw [t2, bnd2_t] at ed
        exact TXI.step hI hT (by decide) hc6 t1 (dv_rd u1 (fun p a b => Or.inl ⟨rfl, a, b⟩)) (tx_ts (by decide) (by rw [Nat.mul_zero, Nat.zero_add]; exact u2)) t4 t5 t6 t8 t9 ed (by rw [er]; exact t3) (fun z => ⟨fun _ => t7 z, fun y => (nomatch y), fun y => (nomatch y), fun y => (nomatch y)⟩)
      · rw [if_neg (show ¬ nI 1 = 0 by decide), if_pos (show nI 1 = 1 from rfl), grd_t (vp_in_nI hc6 (by decide))] at ed
        obtain ⟨F, ds, rs, t1, t2, t3, t4, t5, t6, t7, t8, t9, u1, u2⟩ := TX_do (a1 := DA κ (C 1)) ⟨by omega, by unfold DA; omega⟩ hc6 hTD h5 h6 hTQ i3
        rw [t2, bnd2_t] at ed
        exact TXI.step hI hT (by decide) hc6 t1 (dv_rd u1 (fun p a b => Or.inr (Or.inl ⟨rfl, a, b⟩))) (tx_ts (by decide) u2) t4 t5 t6 t8 t9 ed (by rw [er]; exact t3) (fun z => ⟨fun y => (nomatch y), fun _ => t7 z, fun y => (nomatch y), fun y => (nomatch y)⟩)
      · rw [if_neg (show ¬ nI 2 = 0 by decide), if_neg (show ¬ nI 2 = 1 by decide), if_pos (show nI 2 = 2 from rfl), grd_t (vp_in_nI hc6 (by decide))] at ed
        have hc' : PC κ (kB (kt κ) + 2) (kB (kt κ) + 1) (RA κ (C 2) + 1) (12 + C 2) 9 := ⟨by omega, by unfold RA; omega, L5, Or.inr ⟨by omega, by omega, rfl⟩⟩
        obtain ⟨F, ds, rs, t1, t2, t3, t4, t5, t6, t7, t8, t9, u1, u2⟩ := TX_rule hc' (by unfold RA; omega) hc6 hTD hTQ i3
        rw [t2, bnd2_t] at ed
        exact TXI.step hI hT (by decide) hc6 t1 (dv_rd u1 (fun p a b => Or.inr (Or.inr (Or.inl ⟨rfl, a, b⟩)))) (tx_ts (by decide) u2) t4 t5 t6 t8 t9 ed (by rw [er]; exact t3) (fun z => ⟨fun y => (nomatch y), fun y => (nomatch y), fun _ => t7 z, fun y => (nomatch y)⟩)
      · rw [if_neg (show ¬ nI 3 = 0 by decide), if_neg (show ¬ nI 3 = 1 by decide), if_neg (show ¬ nI 3 = 2 by decide), grd_t (vp_in_nI hc6 (by decide))] at ed
        obtain ⟨F, ds, rs, t1, t2, t3, t4, t5, t6, t7, t8, t9, u1, u2⟩ := TX_strip (a1 := SA κ (C 3)) ⟨by omega, by unfold SA; omega⟩ hc6 hTD h5 h6 hTQ i3
        rw [t2, bnd2_t] at ed
        exact TXI.step hI hT (by decide) hc6 t1 (dv_rd u1 (fun p a b => Or.inr (Or.inr (Or.inr ⟨rfl, a, b⟩)))) (sr_ts u2) t4 t5 t6 t8 t9 ed (by rw [er]; exact t3) (fun z => ⟨fun y => (nomatch y), fun y => (nomatch y), fun y => (nomatch y), fun _ => t7 z⟩)
  · refine TXO.no hI hT ?_ ?_
    · rw [f_xtext_e]
      have : xnum (kB (kt κ)) x dt = -1 := by unfold xnum; rw [if_pos (wi3.mpr hx)]
      rw [this, if_pos (by decide)]
    · rw [f_text_e, if_pos (wi3.mpr hx)]
end Step
