/-! a strip read, both readers -/
def spW (a1 p j : Nat) : Prop := p = a1 ∧ j = 2 ∨ p = a1 + 1 ∨ p = a1 + 2
def stpW (a a1 p j : Nat) : Prop := rdW a p j ∨ spW a1 p j
theorem rd_sp {a a1 : Nat} {s1 s2 : AS} (h : Same (rdW a) s1 s2) : Same (stpW a a1) s1 s2 := h.mono (fun _ _ z => Or.inl z)
theorem sp_sp {a a1 : Nat} {s1 s2 : AS} (h : Same (spW a1) s1 s2) : Same (stpW a a1) s1 s2 := h.mono (fun _ _ z => Or.inr z)
/-- what the reference's reading of strip k touches -/
def rsW (q k p j : Nat) : Prop := rqW q p j ∨ p = q + 8 ∧ 21 * k ≤ j ∧ j < 21 * k + 21 ∨ p = q + 9 ∧ 20 * k ≤ j ∧ j < 20 * k + 20 ∨ p = q + 10 ∧ j = k
theorem rq_rs {q k : Nat} {s1 s2 : AS} (h : Same (rqW q) s1 s2) : Same (rsW q k) s1 s2 := h.mono (fun _ _ z => Or.inl z)
/-- the strip told, both sides -/
def STD (ds : AS) (a1 F : Nat) (P f : Nat → Nat) : Prop := gi ds a1 2 = nI F ∧ (∀ i, i ≤ F → gi ds (a1 + 1) i = nI (P i)) ∧ (∀ i, i < F → gi ds (a1 + 2) i = nI (f i))
def STQ (rs : AS) (q k F : Nat) (P f : Nat → Nat) : Prop := gi rs (q + 10) k = nI F ∧ (∀ i, i ≤ F → gi rs (q + 8) (21 * k + i) = nI (P i)) ∧ (∀ i, i < F → gi rs (q + 9) (20 * k + i) = nI (f i))
def stOK (F : Nat) (P f : Nat → Nat) : Prop := F ≤ 20 ∧ (∀ i, i ≤ F → 1 ≤ P i ∧ P i ≤ 9999) ∧ (∀ i, i < F → f i < 2)
/-- the class's way behind a fold's sign -/
noncomputable def spD2 (κ : Ko) (kd : Nat → AS → Option (Int32 × AS)) (d a a1 : Nat) (x4 v10 : Int32) (s13 : AS) : Option (Int32 × AS) := if (if v10 = ((-1)) then (0 : Int32) else (1 : Int32) : Int32) = 0 then L_Rd_readStrip_22 κ kd d a a1 (if v10 = ((-1)) then (0 : Int32) else (1 : Int32) : Int32) (x4 + 1) s13 else bnd2 (f_Rd_number κ a (1 : Int32) (9999 : Int32) s13) (fun v14 s15 => L_Rd_readStrip_22 κ kd d a a1 (if v10 = ((-1)) then (0 : Int32) else (1 : Int32) : Int32) (x4 + 1) (f_Sp_add κ a1 v10 v14 s15))
noncomputable def spD1 (κ : Ko) (kd : Nat → AS → Option (Int32 × AS)) (d a a1 : Nat) (x4 v3 v10 : Int32) (s11 : AS) : Option (Int32 × AS) := if (if v10 = ((-1)) then (0 : Int32) else (1 : Int32) : Int32) = 0 then spD2 κ kd d a a1 x4 v10 s11 else if x4 = 20 then spD2 κ kd d a a1 x4 v10 (f_Rd_fail κ a v3 (4 : Int32) s11) else spD2 κ kd d a a1 x4 v10 s11
theorem readStrip_e (κ : Ko) (kd : Nat → AS → Option (Int32 × AS)) (d a a1 : Nat) (x3 x4 : Int32) (st : AS) : L_Rd_readStrip_22 κ kd (d + 1) a a1 x3 x4 st = if 20 < x4 then kd a st else if x3 = 0 then kd a st else bnd2 (f_Rd_nextPlace κ a st) (fun v3 s4 => bnd2 (f_Rd_takesByte κ a (77 : Int32) s4) (fun v5 s6 => if v5 = 0 then bnd2 (f_Rd_takesByte κ a (86 : Int32) s6) (fun v7 s8 => spD1 κ kd d a a1 x4 v3 (if v7 = 0 then ((-1) : Int32) else (1 : Int32) : Int32) s8) else spD1 κ kd d a a1 x4 v3 (0 : Int32) s6)) := rfl
/-- the reference's -/
noncomputable def spK (κ : Ko) (v31 : Nat) (s33 : AS) : Option (Int32 × AS) := grd (((f_R_fails κ v31 (4 : Int32) (gi s33 v31 11) s33).1) = 0 ∨ ((f_R_fails κ v31 (4 : Int32) (gi s33 v31 11) s33).1) = 1) (some (((f_R_fails κ v31 (4 : Int32) (gi s33 v31 11) s33).1), ((f_R_fails κ v31 (4 : Int32) (gi s33 v31 11) s33).2)))
noncomputable def spR2 (κ : Ko) (d a0 : Nat) (x1 v15 : Int32) (s10 : AS) : Option (Int32 × AS) := grd (vp_in (((20 : Int32) * x1) + (gi s10 (a0 + 10) (x1 : Int32).toNatClampNeg)) 120) (bnd2 (f_R_numberHere κ a0 (1 : Int32) (9999 : Int32) (ui (ui s10 (a0 + 9) ((((20 : Int32) * x1) + (gi s10 (a0 + 10) (x1 : Int32).toNatClampNeg)) : Int32).toNatClampNeg v15) a0 11 ((gi (ui s10 (a0 + 9) ((((20 : Int32) * x1) + (gi s10 (a0 + 10) (x1 : Int32).toNatClampNeg)) : Int32).toNatClampNeg v15) a0 11) + 1))) (fun v17 s18 => if v17 = 0 then some ((0 : Int32), s18) else grd (vp_in x1 6) (grd (vp_in x1 6) (grd (vp_in x1 6) (grd (vp_in (((21 : Int32) * x1) + (gi (ui s18 (a0 + 10) (x1 : Int32).toNatClampNeg ((gi s18 (a0 + 10) (x1 : Int32).toNatClampNeg) + 1)) (a0 + 10) (x1 : Int32).toNatClampNeg)) 126) (L_R_stripHere_33 κ (spK κ) d a0 x1 (ui (ui s18 (a0 + 10) (x1 : Int32).toNatClampNeg ((gi s18 (a0 + 10) (x1 : Int32).toNatClampNeg) + 1)) (a0 + 8) (((21 : Int32) * x1) + (gi (ui s18 (a0 + 10) (x1 : Int32).toNatClampNeg ((gi s18 (a0 + 10) (x1 : Int32).toNatClampNeg) + 1)) (a0 + 10) (x1 : Int32).toNatClampNeg) : Int32).toNatClampNeg (gi (ui s18 (a0 + 10) (x1 : Int32).toNatClampNeg ((gi s18 (a0 + 10) (x1 : Int32).toNatClampNeg) + 1)) a0 13))))))))
noncomputable def spR1 (κ : Ko) (d a0 : Nat) (x1 : Int32) (s10 : AS) : Option (Int32 × AS) := grd (vp_in x1 6) (if (gi s10 (a0 + 10) (x1 : Int32).toNatClampNeg) = 20 then spK κ a0 s10 else grd (vp_in x1 6) (grd (vp_in (gi s10 a0 11) 400) (if (gi s10 (a0 + 1) (gi s10 a0 11 : Int32).toNatClampNeg) = 77 then spR2 κ d a0 x1 (0 : Int32) s10 else spR2 κ d a0 x1 (1 : Int32) s10)))
theorem stripHere_e (κ : Ko) (d a0 : Nat) (x1 : Int32) (st : AS) : L_R_stripHere_33 κ (spK κ) (d + 1) a0 x1 st = bnd2 (f_R_see κ a0 st) (fun v5 s6 => if v5 = 77 then spR1 κ d a0 x1 s6 else bnd2 (f_R_see κ a0 s6) (fun v7 s8 => if v7 = 86 then spR1 κ d a0 x1 s8 else some ((1 : Int32), s8))) := rfl
section StripLoop
variable {κ : Ko} {a ta A iw a1 k n q : Nat} {T : Nat → Nat}
theorem STD.of {ds ds' : AS} {F : Nat} {P f : Nat → Nat} {W : Nat → Nat → Prop} (h : STD ds a1 F P f) (hw : Same W ds ds') (h0 : ¬ W a1 2) (h1 : ∀ j, ¬ W (a1 + 1) j) (h2 : ∀ j, ¬ W (a1 + 2) j) : STD ds' a1 F P f :=
  ⟨by rw [(hw _ _ h0).1]; exact h.1, fun i hi => by rw [(hw _ _ (h1 i)).1]; exact h.2.1 i hi, fun i hi => by rw [(hw _ _ (h2 i)).1]; exact h.2.2 i hi⟩
theorem STQ.of {rs rs' : AS} {F : Nat} {P f : Nat → Nat} {W : Nat → Nat → Prop} (h : STQ rs q k F P f) (hw : Same W rs rs') (h0 : ¬ W (q + 10) k) (h1 : ∀ j, ¬ W (q + 8) j) (h2 : ∀ j, ¬ W (q + 9) j) : STQ rs' q k F P f :=
  ⟨by rw [(hw _ _ h0).1]; exact h.1, fun i hi => by rw [(hw _ _ (h1 _)).1]; exact h.2.1 i hi, fun i hi => by rw [(hw _ _ (h2 _)).1]; exact h.2.2 i hi⟩
theorem d_spAdd_same (ds : AS) (a1 : Nat) (x y : Int32) : Same (spW a1) ds (f_Sp_add κ a1 x y ds) := by
  unfold f_Sp_add
  exact (((Same.rf _ ds).gput (fun j => Or.inr (Or.inr rfl))).ui (Or.inl ⟨rfl, rfl⟩)).gput (fun j => Or.inr (Or.inl rfl))
theorem d_spAdd {ds : AS} {F v w : Nat} {P f : Nat → Nat} (h : STD ds a1 F P f) (hF : F < 20) : STD (f_Sp_add κ a1 (nI v) (nI w) ds) a1 (F + 1) (fun i => if i = F + 1 then w else P i) (fun i => if i = F then v else f i) := by
  unfold f_Sp_add
  rw [gput_n h.1 hF (by decide)]
  have e1 : gi (ui ds (a1 + 2) F (nI v)) a1 2 = nI F := by rw [gi_ui, if_neg (fun z => by omega)]; exact h.1
  rw [e1, nI_1]
  rw [gput_n (show gi (ui (ui ds (a1 + 2) F (nI v)) a1 2 (nI (F + 1))) a1 2 = nI (F + 1) by rw [gi_ui, if_pos ⟨rfl, rfl⟩]) (show F + 1 < 21 by omega) (by decide)]
  refine ⟨by rw [gi_ui, if_neg (fun z => by omega), gi_ui, if_pos ⟨rfl, rfl⟩], fun i hi => ?_, fun i hi => ?_⟩
  · show _ = nI (if i = F + 1 then w else P i)
    rw [gi_ui]
    by_cases e : i = F + 1
    · rw [if_pos ⟨rfl, e⟩, if_pos e]
    · rw [if_neg (fun z => e z.2), if_neg e, gi_ui, if_neg (fun z => by omega), gi_ui, if_neg (fun z => by omega)]
      exact h.2.1 i (by omega)
  · show _ = nI (if i = F then v else f i)
    rw [gi_ui, if_neg (fun z => by omega), gi_ui, if_neg (fun z => by omega), gi_ui]
    by_cases e : i = F
    · rw [if_pos ⟨rfl, e⟩, if_pos e]
    · rw [if_neg (fun z => e z.2), if_neg e]
      exact h.2.2 i (by omega)
theorem FS.sp {F : Nat} {ds ds' : AS} (hca : ta < a ∧ a + 4 < a1) (h : FS κ ds a ta A iw n T F) (hw : Same (spW a1) ds ds') : FS κ ds' a ta A iw n T F := h.gen hw (fun j z => by unfold spW at z; omega) (fun j z => by unfold spW at z; omega)
theorem F_stripL (kd : Nat → AS → Option (Int32 × AS)) {F : Nat} {ds : AS} (h : FS κ ds a ta A iw n T F) (d : Nat) {x4 : Nat} (hx4 : x4 ≤ 21) : ∃ ds', L_Rd_readStrip_22 κ kd (d + 2) a a1 1 (nI x4) ds = kd a ds' ∧ FS κ ds' a ta A iw n T F ∧ Same (stpW a a1) ds ds' := by
  rw [L_Rd_readStrip_22]
  by_cases z : (20 : Int32) < nI x4
  · rw [if_pos z]
    exact ⟨ds, rfl, h, Same.rf _ _⟩
  · obtain ⟨⟨F0, F1⟩, p, m, hD⟩ := h
    rw [if_neg z, if_neg (show ¬ (1 : Int32) = 0 by decide)]
    obtain ⟨s1, e1, h1, w1⟩ := d_next hD.1
    have D1 := hD.of h1 w1
    obtain ⟨p2, s2, e2, h2, -, -, w2⟩ := d_takes0 D1.1 (x := 77) (b := 77) rfl (by decide) (tks_F F0 F1)
    have D2 := D1.of h2 w2
    obtain ⟨p3, s3, e3, h3, -, -, w3⟩ := d_takes0 D2.1 (x := 86) (b := 86) rfl (by decide) (tks_F F0 F1)
    have D3 := D2.of h3 w3
    rw [e1, bnd2_t, e2, bnd2_t]
    simp only [jn_e, if_true]
    rw [e3, bnd2_t]
    simp only [if_true]
    rw [L_Rd_readStrip_22, if_pos (show (0 : Int32) = 0 from rfl), ite_self]
    exact ⟨s3, rfl, FS.mk F0 F1 D3, rd_sp ((w1.tr w2).tr w3)⟩
theorem E_stripL (hca : ta < a ∧ a + 4 < a1) (hk : k < 6) (kd : Nat → AS → Option (Int32 × AS)) (md mr : Int32) : ∀ (r F : Nat) (P f : Nat → Nat) (pd pr dd dq : Nat) (ds rs : AS), F + r = 21 → DR κ ds a ta A iw n T pd 0 md → RQ rs q n T pr 0 mr → skp T n pd = skp T n pr → STD ds a1 F P f → STQ rs q k F P f → stOK F P f → 100 ≤ dd + F → 100 ≤ dq + F →
    (∃ ds' rs' F' P' f' pd' pr', L_Rd_readStrip_22 κ kd dd a a1 1 (nI F) ds = kd a ds' ∧ L_R_stripHere_33 κ (spK κ) dq q (nI k) rs = some (1, rs') ∧ DR κ ds' a ta A iw n T pd' 0 md ∧ RQ rs' q n T pr' 0 mr ∧ skp T n pd' = skp T n pr' ∧ STD ds' a1 F' P' f' ∧ STQ rs' q k F' P' f' ∧ stOK F' P' f' ∧ Same (stpW a a1) ds ds' ∧ Same (rsW q k) rs rs') ∨
    (∃ ds' rs' E, L_Rd_readStrip_22 κ kd dd a a1 1 (nI F) ds = kd a ds' ∧ FS κ ds' a ta A iw n T E ∧ L_R_stripHere_33 κ (spK κ) dq q (nI k) rs = some (0, rs') ∧ gi rs' q 12 = nI E ∧ Same (stpW a a1) ds ds' ∧ Same (rsW q k) rs rs') := by
  intro r
  induction r with
  | zero => intro F P f pd pr dd dq ds rs hr _ _ _ _ _ hok; exact absurd hok.1 (by omega)
  | succ r ih =>
    intro F P f pd pr dd dq ds rs hr hD hR hsk hSD hSQ hok hdd hdq
    obtain ⟨hpn, hn⟩ := hD.m
    have hlo := skp_lo (T := T) hpn
    have hss := skp_skp (T := T) hpn
    have hF := hok.1
    obtain ⟨dd, rfl⟩ : ∃ e, dd = e + 3 := ⟨dd - 3, by omega⟩
    obtain ⟨dq, rfl⟩ : ∃ e, dq = e + 1 := ⟨dq - 1, by omega⟩
    have c20 := (nI_ltk (m := F) (k := 20) (y := 20) rfl (by omega) (by decide))
    rw [readStrip_e, if_neg (show ¬ (20 : Int32) < nI F from fun z => by have := c20.2.2.1.mp z; omega), if_neg (show ¬ (1 : Int32) = 0 by decide), stripHere_e]
    obtain ⟨s1, e1, h1, w1⟩ := d_next hD.1
    have D1 := hD.of h1 w1
    obtain ⟨r1, g1, k1, v1⟩ := r_see (κ := κ) hR
    rw [← hsk] at k1
    rw [e1, bnd2_t, g1, bnd2_t]
    have tk : ∀ b, tks T n pd 0 b = true ↔ (skp T n pd < n ∧ T (skp T n pd) = b) := fun b => by unfold tks; rw [decide_eq_true_eq]; exact ⟨fun z => z.2, fun z => ⟨rfl, z⟩⟩
    have hTl : skp T n pd < n → T (skp T n pd) < 256 := fun z => (hD.1.1.2.2.2.2.1 _ z).2
    have hnx : nxt T n pr = if skp T n pd < n then nI (T (skp T n pd)) else -1 := by unfold nxt; rw [hsk]
    have nq : ∀ b, b < 128 → (nxt T n pr = nI b ↔ tks T n pd 0 b = true) := fun b hb => by
      rw [tk, hnx]
      by_cases hlt : skp T n pd < n
      · have := hTl hlt
        rw [if_pos hlt, nI_eq (by omega) (by omega)]
        exact ⟨fun z => ⟨hlt, z⟩, fun z => z.2⟩
      · rw [if_neg hlt]
        refine ⟨fun z => ?_, fun z => absurd z.1 hlt⟩
        have : (-1 : Int32).toInt = (nI b).toInt := congrArg Int32.toInt z
        rw [nI_toInt (by omega), show (-1 : Int32).toInt = -1 by decide] at this
        omega
    have nq2 : ∀ b, b < 128 → (nxt T n (skp T n pd) = nI b ↔ tks T n pd 0 b = true) := fun b hb => by
      have : nxt T n (skp T n pd) = nxt T n pr := by rw [hnx]; unfold nxt; rw [hss]
      rw [this]
      exact nq b hb
    have gk : vp_in (nI k) 6 := vp_in_nI hk (by decide)
    have hSTw : ∀ (s s' : AS), Same (rdW a) s s' → ∀ F P f, STD s a1 F P f → STD s' a1 F P f := fun s s' w F P f h => h.of w (fun z => by unfold rdW at z; omega) (fun j z => by unfold rdW at z; omega) (fun j z => by unfold rdW at z; omega)
    have hSQw : ∀ (s s' : AS), Same (rqW q) s s' → ∀ F P f, STQ s q k F P f → STQ s' q k F P f := fun s s' w F P f h => h.of w (fun z => by unfold rqW at z; omega) (fun j z => by unfold rqW at z; omega) (fun j z => by unfold rqW at z; omega)
    by_cases kM : tks T n pd 0 77 = true ∨ tks T n pd 0 86 = true
    · have hlt : skp T n pd < n := by rcases kM with z | z <;> exact ((tk _).mp z).1
      obtain ⟨fv, hfv, hfT⟩ : ∃ fv, fv < 2 ∧ ((T (skp T n pd) = 77 ∧ fv = 0) ∨ (T (skp T n pd) = 86 ∧ fv = 1)) := by
        rcases kM with z | z
        · exact ⟨0, by decide, Or.inl ⟨((tk _).mp z).2, rfl⟩⟩
        · exact ⟨1, by decide, Or.inr ⟨((tk _).mp z).2, rfl⟩⟩
      -- the class's sign
      obtain ⟨s2, D2, w2, hdev⟩ : ∃ s2, DR κ s2 a ta A iw n T (skp T n pd + 1) 0 md ∧ Same (rdW a) s1 s2 ∧ bnd2 (f_Rd_takesByte κ a 77 s1) (fun v5 s6 => if v5 = 0 then bnd2 (f_Rd_takesByte κ a 86 s6) (fun v7 s8 => spD1 κ kd (dd + 2) a a1 (nI F) (nI (skp T n pd)) (if v7 = 0 then -1 else 1) s8) else spD1 κ kd (dd + 2) a a1 (nI F) (nI (skp T n pd)) 0 s6) = spD1 κ kd (dd + 2) a a1 (nI F) (nI (skp T n pd)) (nI fv) s2 := by
        rcases hfT with ⟨y, rfl⟩ | ⟨y, rfl⟩
        · obtain ⟨s2, e2, h2, w2⟩ := d_takes1 D1.1 (x := 77) (b := 77) rfl (by decide) (by rw [tks_eq hss]; exact (tk _).mpr ⟨hlt, y⟩)
          rw [hss] at h2
          exact ⟨s2, D1.of h2 w2, w2, by rw [e2, bnd2_t, if_neg (show ¬ (1 : Int32) = 0 by decide)]; rfl⟩
        · obtain ⟨p2, s2, e2, h2, -, q2, w2⟩ := d_takes0 D1.1 (x := 77) (b := 77) rfl (by decide) (by rw [tks_eq hss]; exact Bool.eq_false_iff.mpr (fun z => by have := ((tk _).mp z).2; omega))
          rw [q2 rfl, hss] at h2
          obtain ⟨s3, e3, h3, w3⟩ := d_takes1 h2 (x := 86) (b := 86) rfl (by decide) (by rw [tks_eq hss]; exact (tk _).mpr ⟨hlt, y⟩)
          rw [hss] at h3
          exact ⟨s3, (D1.of h2 w2).of h3 w3, w2.tr w3, by rw [e2, bnd2_t, if_pos (show (0 : Int32) = 0 from rfl), e3, bnd2_t, if_neg (show ¬ (1 : Int32) = 0 by decide)]; rfl⟩
      -- the reference's
      obtain ⟨r2, k2, v2, href⟩ : ∃ r2, RQ r2 q n T (skp T n pd) 0 mr ∧ Same (rqW q) r1 r2 ∧ (if nxt T n pr = 77 then spR1 κ dq q (nI k) r1 else bnd2 (f_R_see κ q r1) (fun v7 s8 => if v7 = 86 then spR1 κ dq q (nI k) s8 else some ((1 : Int32), s8))) = spR1 κ dq q (nI k) r2 := by
        rcases hfT with ⟨y, rfl⟩ | ⟨y, rfl⟩
        · exact ⟨r1, k1, Same.rf _ _, by rw [if_pos (show nxt T n pr = 77 from (nq 77 (by decide)).mpr ((tk _).mpr ⟨hlt, y⟩))]⟩
        · obtain ⟨r2, g2, k2, v2⟩ := r_see (κ := κ) k1
          rw [hss] at k2
          exact ⟨r2, k2, v2, by rw [if_neg (show ¬ nxt T n pr = 77 from fun z => by have := ((tk _).mp ((nq 77 (by decide)).mp z)).2; omega), g2, bnd2_t, if_pos (show nxt T n (skp T n pd) = 86 from (nq2 86 (by decide)).mpr ((tk _).mpr ⟨hlt, y⟩))]⟩
      rw [hdev, href]
      have hfn : ¬ (nI fv : Int32) = -1 := wt_n (by omega)
      have SD2 := hSTw _ _ (w1.tr w2) _ _ _ hSD
      have SQ2 := hSQw _ _ (v1.tr v2) _ _ _ hSQ
      have wD2 : Same (stpW a a1) ds s2 := rd_sp (w1.tr w2)
      have wR2 : Same (rsW q k) rs r2 := rq_rs (v1.tr v2)
      unfold spD1 spR1
      rw [if_neg hfn, if_neg (show ¬ (1 : Int32) = 0 by decide), grd_t gk, nI_clamp (show k < 2 ^ 31 by omega), SQ2.1]
      simp only [c20.2.2.2.2]
      by_cases k20 : F = 20
      · right
        rw [if_pos k20, if_pos k20]
        obtain ⟨s3, e3, h3, w3⟩ := d_fail D2.1 (x := nI (skp T n pd)) (y := 4) (b := skp T n pd) (k := 4) rfl rfl
        rw [ffl_0] at h3
        have FS3 := FS.mk (by omega) (by omega) (D2.of h3 w3)
        rw [e3]
        unfold spD2 spK
        rw [if_neg hfn, if_neg (show ¬ (1 : Int32) = 0 by decide)]
        obtain ⟨v4, s4, e4, h4, w4⟩ := F_numR FS3 (x := 1) (y := 9999) (lo := 1) (hi := 9999) rfl rfl (by decide) (by decide)
        have w5 := d_spAdd_same (κ := κ) s4 a1 (nI fv) v4
        obtain ⟨s6, e6, h6, w6⟩ := F_stripL (a1 := a1) kd (h4.sp hca w5) dd (x4 := F + 1) (by omega)
        rw [e4, bnd2_t, nI_1, e6]
        obtain ⟨r4, g4, k4, v4'⟩ := r_fails (κ := κ) k2 (x := 4) (y := nI (skp T n pd)) (b := skp T n pd) (k := 4) rfl rfl
        rw [k2.2.1, g4, grd_t (Or.inl rfl)]
        exact ⟨s6, r4, _, rfl, h6, rfl, k4.2.2.2.1, ((wD2.tr (rd_sp (w3.tr w4))).tr (sp_sp w5)).tr w6, wR2.tr (rq_rs v4')⟩
      · rw [if_neg k20, if_neg k20, grd_t gk, k2.2.1, grd_t (vp_in_nI (by omega) (by decide)), nI_clamp (show skp T n pd < 2 ^ 31 by omega), (k2.1.2.2 _ hlt).1]
        have hRR : (if sb (T (skp T n pd)) = 77 then spR2 κ dq q (nI k) 0 r2 else spR2 κ dq q (nI k) 1 r2) = spR2 κ dq q (nI k) (nI fv) r2 := by
          rcases hfT with ⟨y, rfl⟩ | ⟨y, rfl⟩
          · rw [y, if_pos (by decide)]; rfl
          · rw [y, if_neg (by decide)]; rfl
        rw [hRR]
        unfold spD2 spR2
        rw [if_neg hfn, if_neg (show ¬ (1 : Int32) = 0 by decide), nI_clamp (show k < 2 ^ 31 by omega), SQ2.1, show (20 : Int32) * nI k + nI F = nI (20 * k + F) by rw [show (20 : Int32) = nI 20 from rfl, nI_mul, nI_add], grd_t (vp_in_nI (by omega) (by decide)), nI_clamp (show 20 * k + F < 2 ^ 31 by omega), gi_ui, if_neg (show ¬ (q = q + 9 ∧ 11 = 20 * k + F) from fun z => by omega), k2.2.1, nI_1, nI_1]
        have w3r : Same (fun p j => p = q + 9 ∧ j = 20 * k + F) r2 (ui r2 (q + 9) (20 * k + F) (nI fv)) := (Same.rf _ r2).ui ⟨rfl, rfl⟩
        have k3 : RQ (ui r2 (q + 9) (20 * k + F) (nI fv)) q n T (skp T n pd) 0 mr := ⟨⟨by rw [(w3r q 1 (fun z => by omega)).1]; exact k2.1.1, k2.1.2.1, fun i hi => by rw [(w3r (q + 1) i (fun z => by omega)).1]; exact k2.1.2.2 i hi⟩, by rw [(w3r q 11 (fun z => by omega)).1]; exact k2.2.1, k2.2.2.1, by rw [(w3r q 12 (fun z => by omega)).1]; exact k2.2.2.2.1, by rw [(w3r q 15 (fun z => by omega)).1]; exact k2.2.2.2.2⟩
        have k4 := k3.at (p' := skp T n pd + 1) (by omega)
        have w4r : Same (rqW q) (ui r2 (q + 9) (20 * k + F) (nI fv)) (ui (ui r2 (q + 9) (20 * k + F) (nI fv)) q 11 (nI (skp T n pd + 1))) := rq_11 (Same.rf _ _)
        have wR4 : Same (rsW q k) rs (ui (ui r2 (q + 9) (20 * k + F) (nI fv)) q 11 (nI (skp T n pd + 1))) := (wR2.tr (w3r.mono (fun p j z => Or.inr (Or.inr (Or.inl ⟨z.1, by omega, by omega⟩))))).tr (rq_rs w4r)
        have f9 : ∀ i, gi (ui (ui r2 (q + 9) (20 * k + F) (nI fv)) q 11 (nI (skp T n pd + 1))) (q + 9) i = if i = 20 * k + F then nI fv else gi r2 (q + 9) i := fun i => by
          rw [gi_ui, if_neg (fun z => by omega), gi_ui]
          by_cases e : i = 20 * k + F
          · rw [if_pos ⟨rfl, e⟩, if_pos e]
          · rw [if_neg (fun z => e z.2), if_neg e]
        have f8 : ∀ p i, p = q + 8 ∨ p = q + 10 → gi (ui (ui r2 (q + 9) (20 * k + F) (nI fv)) q 11 (nI (skp T n pd + 1))) p i = gi r2 p i := fun p i hp => by
          rw [gi_ui, if_neg (fun z => by omega), gi_ui, if_neg (fun z => by omega)]
        generalize ui (ui r2 (q + 9) (20 * k + F) (nI fv)) q 11 (nI (skp T n pd + 1)) = r4 at *
        obtain ⟨s5, e5, h5, w5⟩ := d_number D2.1 (x := 1) (y := 9999) (lo := 1) (hi := 9999) rfl rfl (by decide) (by decide)
        rw [if_pos rfl] at h5
        have D5 := D2.of h5 w5
        obtain ⟨p6, v6, r6, g6, k6, k6v, u6⟩ := r_number (κ := κ) k4 (x := 1) (y := 9999) (lo := 1) (hi := 9999) rfl rfl (by decide) (by decide)
        have hnl := nfl_lt (T := T) (n := n) (p := skp T n pd + 1) (lo := 1) (hi := 9999) hn (by omega)
        rw [e5, bnd2_t, g6, bnd2_t]
        have w7 := d_spAdd_same (κ := κ) s5 a1 (nI fv) (nI (nvl5 T (skp T n (skp T n pd + 1)) (den T n (skp T n (skp T n pd + 1)))))
        have SD5 := hSTw _ _ w5 _ _ _ SD2
        by_cases hf : nfl T n (skp T n pd + 1) 1 9999 = 0
        · rw [if_pos hf, if_neg (show ¬ (1 : Int32) = 0 by decide), grd_t gk, grd_t gk, grd_t gk]
          rw [hf] at k6 D5
          obtain ⟨y1, y2, y3⟩ := k6v hf
          have hv := nfl_0 hf
          rw [← y3] at hv w7 ⊢
          rw [← y1] at D5
          have f10 : gi r6 (q + 10) k = nI F := by rw [(u6 _ _ (fun z => by unfold rqW at z; omega)).1, f8 _ _ (Or.inr rfl)]; exact SQ2.1
          rw [f10, nI_1, gi_ui, if_pos ⟨rfl, rfl⟩, show (21 : Int32) * nI k + nI (F + 1) = nI (21 * k + (F + 1)) by rw [show (21 : Int32) = nI 21 from rfl, nI_mul, nI_add], grd_t (vp_in_nI (by omega) (by decide)), nI_clamp (show 21 * k + (F + 1) < 2 ^ 31 by omega), gi_ui, if_neg (show ¬ (q = q + 10 ∧ 13 = k) from fun z => by omega), y2]
          have w8r : Same (fun p j => p = q + 10 ∧ j = k ∨ p = q + 8 ∧ j = 21 * k + (F + 1)) r6 (ui (ui r6 (q + 10) k (nI (F + 1))) (q + 8) (21 * k + (F + 1)) (nI v6)) := ((Same.rf _ r6).ui (Or.inl ⟨rfl, rfl⟩)).ui (Or.inr ⟨rfl, rfl⟩)
          have k8 : RQ (ui (ui r6 (q + 10) k (nI (F + 1))) (q + 8) (21 * k + (F + 1)) (nI v6)) q n T p6 0 mr := ⟨⟨by rw [(w8r q 1 (fun z => by omega)).1]; exact k6.1.1, k6.1.2.1, fun i hi => by rw [(w8r (q + 1) i (fun z => by omega)).1]; exact k6.1.2.2 i hi⟩, by rw [(w8r q 11 (fun z => by omega)).1]; exact k6.2.1, k6.2.2.1, by rw [(w8r q 12 (fun z => by omega)).1]; exact k6.2.2.2.1, by rw [(w8r q 15 (fun z => by omega)).1]; exact k6.2.2.2.2⟩
          have SQ8 : STQ (ui (ui r6 (q + 10) k (nI (F + 1))) (q + 8) (21 * k + (F + 1)) (nI v6)) q k (F + 1) (fun i => if i = F + 1 then v6 else P i) (fun i => if i = F then fv else f i) := by
            refine ⟨by rw [gi_ui, if_neg (fun z => by omega), gi_ui, if_pos ⟨rfl, rfl⟩], fun i hi => ?_, fun i hi => ?_⟩
            · show _ = nI (if i = F + 1 then v6 else P i)
              rw [gi_ui]
              by_cases e : i = F + 1
              · rw [if_pos ⟨rfl, by rw [e]⟩, if_pos e]
              · rw [if_neg (fun z => e (by omega)), if_neg e, gi_ui, if_neg (fun z => by omega), (u6 _ _ (fun z => by unfold rqW at z; omega)).1, f8 _ _ (Or.inl rfl)]
                exact SQ2.2.1 i (by omega)
            · show _ = nI (if i = F then fv else f i)
              rw [gi_ui, if_neg (fun z => by omega), gi_ui, if_neg (fun z => by omega), (u6 _ _ (fun z => by unfold rqW at z; omega)).1, f9]
              by_cases e : i = F
              · rw [if_pos (by rw [e]), if_pos e]
              · rw [if_neg (by omega), if_neg e]
                exact SQ2.2.2 i (by omega)
          have ok8 : stOK (F + 1) (fun i => if i = F + 1 then v6 else P i) (fun i => if i = F then fv else f i) := by
            refine ⟨by omega, fun i hi => ?_, fun i hi => ?_⟩
            · show 1 ≤ (if i = F + 1 then v6 else P i) ∧ (if i = F + 1 then v6 else P i) ≤ 9999
              by_cases e : i = F + 1
              · rw [if_pos e]; exact hv
              · rw [if_neg e]; exact hok.2.1 i (by omega)
            · show (if i = F then fv else f i) < 2
              by_cases e : i = F
              · rw [if_pos e]; exact hfv
              · rw [if_neg e]; exact hok.2.2 i (by omega)
          have D8 : DR κ (f_Sp_add κ a1 (nI fv) (nI v6) s5) a ta A iw n T p6 0 md := D5.gen w7 (fun j z => by unfold spW at z; omega) (fun j z => by unfold spW at z; omega)
          have wD8 : Same (stpW a a1) ds (f_Sp_add κ a1 (nI fv) (nI v6) s5) := (wD2.tr (rd_sp w5)).tr (sp_sp w7)
          have wR8 : Same (rsW q k) rs (ui (ui r6 (q + 10) k (nI (F + 1))) (q + 8) (21 * k + (F + 1)) (nI v6)) := (wR4.tr (rq_rs u6)).tr (w8r.mono (fun p j z => z.elim (fun y => Or.inr (Or.inr (Or.inr ⟨y.1, y.2⟩))) (fun y => Or.inr (Or.inl ⟨y.1, by omega, by omega⟩))))
          rcases ih (F + 1) _ _ p6 p6 (dd + 2) dq _ _ (by omega) D8 k8 rfl (d_spAdd SD5 (by omega)) SQ8 ok8 (by omega) (by omega) with ⟨ds', rs', F', P', f', pd', pr', b1, b2, b3, b4, b5, b6, b7, b8, b9, b10⟩ | ⟨ds', rs', E, b1, b2, b3, b4, b5, b6⟩
          · left
            exact ⟨ds', rs', F', P', f', pd', pr', b1, b2, b3, b4, b5, b6, b7, b8, wD8.tr b9, wR8.tr b10⟩
          · right
            exact ⟨ds', rs', E, b1, b2, b3, b4, wD8.tr b5, wR8.tr b6⟩
        · right
          rw [if_neg hf, if_pos (show (0 : Int32) = 0 from rfl)]
          have FS5 := FS.mk (by omega) hnl D5
          obtain ⟨s8, e8, h8, w8⟩ := F_stripL (a1 := a1) kd (FS5.sp hca w7) dd (x4 := F + 1) (by omega)
          rw [e8]
          exact ⟨s8, r6, _, rfl, h8, rfl, k6.2.2.2.1, ((wD2.tr (rd_sp w5)).tr (sp_sp w7)).tr w8, wR4.tr (rq_rs u6)⟩
    · left
      have k77 : tks T n pd 0 77 = false := Bool.eq_false_iff.mpr (fun z => kM (Or.inl z))
      have k86 : tks T n pd 0 86 = false := Bool.eq_false_iff.mpr (fun z => kM (Or.inr z))
      obtain ⟨p2, s2, e2, h2, -, q2, w2⟩ := d_takes0 D1.1 (x := 77) (b := 77) rfl (by decide) (by rw [tks_eq hss]; exact k77)
      rw [q2 rfl, hss] at h2
      have D2 := D1.of h2 w2
      obtain ⟨p3, s3, e3, h3, -, q3, w3⟩ := d_takes0 D2.1 (x := 86) (b := 86) rfl (by decide) (by rw [tks_eq hss]; exact k86)
      rw [q3 rfl, hss] at h3
      have D3 := D2.of h3 w3
      rw [e2, bnd2_t, if_pos (show (0 : Int32) = 0 from rfl), e3, bnd2_t, if_pos (show (0 : Int32) = 0 from rfl)]
      unfold spD1 spD2
      simp only [if_true]
      rw [L_Rd_readStrip_22, if_pos (show (0 : Int32) = 0 from rfl), ite_self]
      rw [if_neg (show ¬ nxt T n pr = 77 from fun z => kM (Or.inl ((nq 77 (by decide)).mp z)))]
      obtain ⟨r2, g2, k2, v2⟩ := r_see (κ := κ) k1
      rw [hss] at k2
      rw [g2, bnd2_t, if_neg (show ¬ nxt T n (skp T n pd) = 86 from fun z => kM (Or.inr ((nq2 86 (by decide)).mp z)))]
      exact ⟨s3, r2, F, P, f, skp T n pd, skp T n pd, rfl, rfl, D3, k2, rfl, hSTw _ _ ((w1.tr w2).tr w3) _ _ _ hSD, hSQw _ _ (v1.tr v2) _ _ _ hSQ, hok, rd_sp ((w1.tr w2).tr w3), rq_rs (v1.tr v2)⟩
end StripLoop
