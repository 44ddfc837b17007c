/-! sums, both readers -/
section TermSign
variable {κ : Ko} {st : AS} {a ta n p : Nat} {T : Nat → Nat} {f m : Int32}
/-- the sign that the class takes -/
def tsg (T : Nat → Nat) (n p : Nat) (f : Int32) : Int32 := if tks T n p f 43 = true then 2 else if tks T n p f 45 = true then 3 else if tks T n p f 42 = true then 4 else if tks T n p f 47 = true then 5 else -1
theorem d_takes0 (h : RS κ st a ta n T p f m) {x : Int32} {b : Nat} (hx : x = nI b) (hb : b < 256) (hk : tks T n p f b = false) : ∃ p' st', f_Rd_takesByte κ a x st = some (0, st') ∧ RS κ st' a ta n T p' f m ∧ (p' = p ∨ p' = skp T n p) ∧ (f = 0 → p' = skp T n p) ∧ Same (rdW a) st st' := by
  obtain ⟨s1, e1, h1, w1⟩ := d_takes h hx hb
  rw [hk] at e1 h1
  rw [if_neg (show ¬ (false = true) by decide)] at e1 h1
  by_cases hf : f = 0
  · rw [if_pos hf] at h1
    exact ⟨_, s1, e1, h1, Or.inr rfl, fun _ => rfl, w1⟩
  · rw [if_neg hf] at h1
    exact ⟨_, s1, e1, h1, Or.inl rfl, fun z => absurd z hf, w1⟩
theorem d_takes1 (h : RS κ st a ta n T p f m) {x : Int32} {b : Nat} (hx : x = nI b) (hb : b < 256) (hk : tks T n p f b = true) : ∃ st', f_Rd_takesByte κ a x st = some (1, st') ∧ RS κ st' a ta n T (skp T n p + 1) f m ∧ Same (rdW a) st st' := by
  obtain ⟨s1, e1, h1, w1⟩ := d_takes h hx hb
  rw [hk] at e1 h1
  rw [if_pos rfl] at e1 h1
  exact ⟨s1, e1, h1, w1⟩
theorem tks_eq {p' : Nat} (h : skp T n p' = skp T n p) (b : Nat) : tks T n p' f b = tks T n p f b := by unfold tks; rw [h]
theorem tks_one {b c : Nat} (h : tks T n p f b = true) (hc : b ≠ c) : tks T n p f c = false := by
  have := of_decide_eq_true h
  exact decide_eq_false (fun z => hc (by rw [← this.2.2, z.2.2]))
theorem d_termSign (h : RS κ st a ta n T p f m) : ∃ p' st', f_Rd_termSign κ a st = some (tsg T n p f, st') ∧ RS κ st' a ta n T p' f m ∧ (tsg T n p f = -1 → (p' = p ∨ p' = skp T n p) ∧ (f = 0 → p' = skp T n p)) ∧ (tsg T n p f ≠ -1 → p' = skp T n p + 1) ∧ Same (rdW a) st st' := by
  unfold f_Rd_termSign tsg
  have hp := h.2.2.1
  have hss : ∀ p', (p' = p ∨ p' = skp T n p) → skp T n p' = skp T n p := fun p' z => by
    rcases z with rfl | rfl
    · rfl
    · exact skp_skp hp
  by_cases k1 : tks T n p f 43 = true
  · obtain ⟨s1, e1, h1, w1⟩ := d_takes1 h (x := 43) (b := 43) rfl (by decide) k1
    rw [e1, bnd2_t, if_neg (show ¬ (1 : Int32) = 0 by decide), if_pos k1]
    exact ⟨_, s1, rfl, h1, fun z => absurd z (by decide), fun _ => rfl, w1⟩
  · obtain ⟨p1, s1, e1, h1, q1, r1, w1⟩ := d_takes0 h (x := 43) (b := 43) rfl (by decide) (Bool.eq_false_iff.mpr k1)
    rw [e1, bnd2_t, if_pos (show (0 : Int32) = 0 from rfl), if_neg k1]
    have z1 := hss p1 q1
    by_cases k2 : tks T n p f 45 = true
    · obtain ⟨s2, e2, h2, w2⟩ := d_takes1 h1 (x := 45) (b := 45) rfl (by decide) (by rw [tks_eq z1]; exact k2)
      rw [e2, bnd2_t, if_neg (show ¬ (1 : Int32) = 0 by decide), if_pos k2]
      rw [z1] at h2
      exact ⟨_, s2, rfl, h2, fun z => absurd z (by decide), fun _ => rfl, w1.tr w2⟩
    · obtain ⟨p2, s2, e2, h2, q2, r2, w2⟩ := d_takes0 h1 (x := 45) (b := 45) rfl (by decide) (by rw [tks_eq z1]; exact Bool.eq_false_iff.mpr k2)
      rw [e2, bnd2_t, if_pos (show (0 : Int32) = 0 from rfl), if_neg k2]
      rw [z1] at q2 r2
      have q2' : p2 = p ∨ p2 = skp T n p := by
        rcases q2 with rfl | rfl
        · exact q1
        · exact Or.inr rfl
      have z2 := hss p2 q2'
      by_cases k3 : tks T n p f 42 = true
      · obtain ⟨s3, e3, h3, w3⟩ := d_takes1 h2 (x := 42) (b := 42) rfl (by decide) (by rw [tks_eq z2]; exact k3)
        rw [e3, bnd2_t, if_neg (show ¬ (1 : Int32) = 0 by decide), if_pos k3]
        rw [z2] at h3
        exact ⟨_, s3, rfl, h3, fun z => absurd z (by decide), fun _ => rfl, (w1.tr w2).tr w3⟩
      · obtain ⟨p3, s3, e3, h3, q3, r3, w3⟩ := d_takes0 h2 (x := 42) (b := 42) rfl (by decide) (by rw [tks_eq z2]; exact Bool.eq_false_iff.mpr k3)
        rw [e3, bnd2_t, if_pos (show (0 : Int32) = 0 from rfl), if_neg k3]
        rw [z2] at q3 r3
        have q3' : p3 = p ∨ p3 = skp T n p := by
          rcases q3 with rfl | rfl
          · exact q2'
          · exact Or.inr rfl
        have z3 := hss p3 q3'
        by_cases k4 : tks T n p f 47 = true
        · obtain ⟨s4, e4, h4, w4⟩ := d_takes1 h3 (x := 47) (b := 47) rfl (by decide) (by rw [tks_eq z3]; exact k4)
          rw [e4, bnd2_t, if_neg (show ¬ (1 : Int32) = 0 by decide), if_pos k4]
          rw [z3] at h4
          exact ⟨_, s4, rfl, h4, fun z => absurd z (by decide), fun _ => rfl, ((w1.tr w2).tr w3).tr w4⟩
        · obtain ⟨p4, s4, e4, h4, q4, r4, w4⟩ := d_takes0 h3 (x := 47) (b := 47) rfl (by decide) (by rw [tks_eq z3]; exact Bool.eq_false_iff.mpr k4)
          rw [e4, bnd2_t, if_pos (show (0 : Int32) = 0 from rfl), if_neg k4]
          rw [z3] at q4 r4
          have q4' : p4 = p ∨ p4 = skp T n p := by
            rcases q4 with rfl | rfl
            · exact q3'
            · exact Or.inr rfl
          exact ⟨p4, s4, rfl, h4, fun _ => ⟨q4', r4⟩, fun z => absurd rfl z, ((w1.tr w2).tr w3).tr w4⟩
theorem tsg_F {F : Nat} (h0 : 0 < F) (h : F < 4000) : tsg T n p (nI F) = -1 := by
  unfold tsg
  rw [tks_F h0 h, tks_F h0 h, tks_F h0 h, tks_F h0 h]
  rfl
end TermSign
theorem wt_n {x : Nat} (h : x < 100) : ¬ (nI x : Int32) = -1 := fun z => by
  have : (nI x).toInt = (-1 : Int32).toInt := congrArg Int32.toInt z
  rw [nI_toInt (by omega), show (-1 : Int32).toInt = -1 by decide] at this
  omega
section Sum
variable {κ : Ko} {a ta A t iw n q : Nat} {T : Nat → Nat}
/-- after a fault the loop over signs ends -/
theorem F_sumL (hc : PC κ a ta A t iw) {F : Nat} {ds : AS} (h : FS κ ds a ta A iw n T F) (x1 : Int32) {x3 : Nat} (hx3 : x3 < 90000) (d : Nat) : ∃ ds', L_Rd_sum_10 κ iw (d + 2) a x1 1 (nI x3) ds = some ds' ∧ FS κ ds' a ta A iw n T F ∧ Same (pdW a A) ds ds' := by
  obtain ⟨⟨F0, F1⟩, p, m, hD⟩ := h
  rw [L_Rd_sum_10]
  by_cases h4 : (400 : Int32) ≤ nI x3
  · rw [if_pos h4]
    exact ⟨ds, rfl, ⟨⟨F0, F1⟩, p, m, hD⟩, Same.rf _ _⟩
  · rw [if_neg h4, if_neg (show ¬ (1 : Int32) = 0 by decide)]
    obtain ⟨p1, s1, e1, h1, -, -, w1⟩ := d_termSign hD.1
    have D1 := hD.of h1 w1
    rw [e1, bnd2_t, tsg_F F0 F1]
    simp only [jn_e]
    rw [if_neg (show ¬ (-1 : Int32) = 4 by decide), if_neg (show ¬ (-1 : Int32) = 5 by decide)]
    simp only [if_true]
    by_cases hx : x1 = -1
    · rw [if_pos hx, L_Rd_sum_10, if_pos (show (0 : Int32) = 0 from rfl), ite_self]
      exact ⟨s1, rfl, FS.mk F0 F1 D1, rd_pd w1⟩
    · rw [if_neg hx, D1.2.1, bnd_t, grd_t hc.2.2.1, L_Rd_sum_10, if_pos (show (0 : Int32) = 0 from rfl), ite_self]
      have w2 := d_add_same (κ := κ) s1 A x1 0
      exact ⟨_, rfl, FS.mk F0 F1 (D1.cd hc w2), (rd_pd w1).tr (cd_pd w2)⟩
theorem F_sum (hc : PC κ a ta A t iw) {F : Nat} {ds : AS} (h : FS κ ds a ta A iw n T F) : ∃ ds', f_Rd_sum κ iw a ds = some ds' ∧ FS κ ds' a ta A iw n T F ∧ Same (pdW a A) ds ds' := by
  unfold f_Rd_sum
  obtain ⟨s1, e1, h1, w1⟩ := F_value hc h
  rw [e1, bnd_t]
  obtain ⟨s2, e2, h2, w2⟩ := F_sumL hc h1 (-1) (x3 := 0) (by decide) (FU - 2)
  exact ⟨s2, e2, h2, w1.tr w2⟩
/-- what the reference does behind a term, with a sign that waits -/
noncomputable def cnt_ (κ : Ko) (q ds : Nat) (w : Option Nat) (s : AS) : Option (Int32 × AS) := match w with | none => L_R_sum_9 κ ds q s | some w => bnd (f_R_puts κ q (nI w) 0 s) (fun s' => L_R_sum_9 κ ds q s')
noncomputable def rTm (κ : Ko) (q dt ds : Nat) (w : Option Nat) (s : AS) : Option (Int32 × AS) := bnd2 (L_R_term_9 κ dt q s) (fun v s2 => if v = 0 then some (0, s2) else cnt_ κ q ds w s2)
/-- what waits: the code so far is a sum, or two with a sign between -/
def wtg (w : Option Nat) (R : List (Nat × Nat)) : Prop := match w with | none => SumR R | some s => (s = 2 ∨ s = 3) ∧ ∃ R1 R2, R = R1 ++ R2 ∧ SumR R1 ∧ SumR R2
def wCode (w : Option Nat) : List (Nat × Nat) := match w with | none => [] | some s => [(s, 0)]
theorem wtg_end {w : Option Nat} {R : List (Nat × Nat)} (h : wtg w R) : SumR (R ++ wCode w) := by
  cases w with
  | none => rw [wCode, List.append_nil]; exact h
  | some s =>
    obtain ⟨h1, R1, R2, rfl, h2, h3⟩ := h
    exact h2.op h3 (by omega) (by omega)
theorem wtg_mul {w : Option Nat} {R : List (Nat × Nat)} (h : wtg w R) {x : Nat × Nat} {u : Nat} (hx : SumR [x]) (hs : u = 4 ∨ u = 5) : wtg w (R ++ [x] ++ [(u, 0)]) := by
  cases w with
  | none => exact SumR.op h hx (by omega) (by omega)
  | some s =>
    obtain ⟨h1, R1, R2, rfl, h2, h3⟩ := h
    refine ⟨h1, R1, R2 ++ [x] ++ [(u, 0)], by simp only [List.append_assoc], h2, h3.op hx (by omega) (by omega)⟩
/-- both go on well -/
def GOOD (κ : Ko) (a ta A iw q t n : Nat) (T : Nat → Nat) (Ld Lr : List (Nat × Nat)) (pd : Nat) (P : List (Nat × Nat) → Prop) (o : Option AS) (r : Option (Int32 × AS)) (ds rs : AS) : Prop :=
  ∃ ds' rs' R pd' pr' m', o = some ds' ∧ r = some (1, rs') ∧ PS κ ds' rs' a ta A iw q t n T pd' pr' (Ld ++ R) (Lr ++ R) m' ∧ P R ∧ pd < pd' ∧ pd + R.length ≤ pd' ∧ Same (pdW a A) ds ds' ∧ Same (pqW q t) rs rs'
theorem E_sumL (hc : PC κ a ta A t iw) (K : Nat) : ∀ (r : Nat) (pd pr m dd dt dsu x3 : Nat) (w : Option Nat) (Ld Lr R : List (Nat × Nat)) (ds rs : AS), r = n - pd → PS κ ds rs a ta A iw q t n T pd pr (Ld ++ R) (Lr ++ R) m → wtg w R → (Ld.length ≤ K ∧ Lr.length ≤ K) → K + R.length + (wCode w).length ≤ pd → x3 + 1 ≤ pd → 1000 ≤ dd + pd → 1000 ≤ dt + pd → 1000 ≤ dsu + pd →
    (∃ ds' rs' R' pd' pr' m', L_Rd_sum_10 κ iw dd a (oI w) 1 (nI x3) ds = some ds' ∧ rTm κ q dt dsu w rs = some (1, rs') ∧ PS κ ds' rs' a ta A iw q t n T pd' pr' (Ld ++ R') (Lr ++ R') m' ∧ SumR R' ∧ pd ≤ pd' ∧ K + R'.length ≤ pd' ∧ Same (pdW a A) ds ds' ∧ Same (pqW q t) rs rs') ∨
    BAD κ a ta A iw q t n T (L_Rd_sum_10 κ iw dd a (oI w) 1 (nI x3) ds) (rTm κ q dt dsu w rs) ds rs := by
  intro r
  induction r using Nat.strongRecOn with
  | ind r ih =>
    intro pd pr m dd dt dsu x3 w Ld Lr R ds rs hr h hw hl1 hl2 hx3 hdd hdt hdsu
    have h' := h
    obtain ⟨⟨hD, hC⟩, hR, hsk, hm, hv, hvc⟩ := h'
    obtain ⟨hpn, hn⟩ := hD.m
    have ll1 : (Ld ++ R).length = Ld.length + R.length := List.length_append
    have ll2 : (Lr ++ R).length = Lr.length + R.length := List.length_append
    have ht : t < 18 := by have := hc.2.2.2; omega
    have hlo := skp_lo (T := T) hpn
    have hprn := hR.1.2.2.1
    obtain ⟨dd, rfl⟩ : ∃ e, dd = e + 2 := ⟨dd - 2, by omega⟩
    obtain ⟨dt, rfl⟩ : ∃ e, dt = e + 1 := ⟨dt - 1, by omega⟩
    obtain ⟨dsu, rfl⟩ : ∃ e, dsu = e + 1 := ⟨dsu - 1, by omega⟩
    have hw23 : ∀ s, w = some s → s = 2 ∨ s = 3 := fun s z => by subst z; exact hw.1
    have x400 : ¬ (400 : Int32) ≤ nI x3 := nI_ge (b := 400) (by omega) (by decide)
    unfold rTm
    rw [L_Rd_sum_10, if_neg x400, if_neg (show ¬ (1 : Int32) = 0 by decide), L_R_term_9]
    obtain ⟨p1, s1, e1, h1, q1, q1', w1⟩ := d_termSign hD.1
    have D1 := hD.of h1 w1
    have C1 := hC.rd hc w1
    obtain ⟨r1, g1, k1, v1⟩ := r_see (κ := κ) hR.1
    have R1 := hR.of k1 v1
    rw [← hsk] at R1
    rw [e1, bnd2_t, g1, bnd2_t]
    simp only [jn_e]
    have hnx : nxt T n pr = if skp T n pd < n then nI (T (skp T n pd)) else -1 := by unfold nxt; rw [hsk]
    have hT : skp T n pd < n → T (skp T n pd) < 256 := fun z => (hD.1.1.2.2.2.2.1 _ z).2
    have tk : ∀ b, tks T n pd 0 b = true ↔ (skp T n pd < n ∧ T (skp T n pd) = b) := fun b => by unfold tks; rw [decide_eq_true_eq]; exact ⟨fun z => z.2, fun z => ⟨rfl, z⟩⟩
    have nq : ∀ b, b < 128 → (nxt T n pr = nI b ↔ tks T n pd 0 b = true) := fun b hb => by
      rw [tk, hnx]
      by_cases hlt : skp T n pd < n
      · have := hT hlt
        rw [if_pos hlt, nI_eq (by omega) (by omega)]
        exact ⟨fun z => ⟨hlt, z⟩, fun z => z.2⟩
      · rw [if_neg hlt]
        refine ⟨fun z => ?_, fun z => absurd z.1 hlt⟩
        have : (-1 : Int32).toInt = (nI b).toInt := congrArg Int32.toInt z
        rw [nI_toInt (by omega), show (-1 : Int32).toInt = -1 by decide] at this
        omega
    -- the value behind a sign at the next place
    have valAt : ∀ (s1' r1' : AS) (Ld' Lr' : List (Nat × Nat)), DR κ s1' a ta A iw n T (skp T n pd + 1) 0 (nI m) → CDL s1' A Ld' → RR_ r1' q t n T (skp T n pd + 1) (nI m) Lr' → skp T n pd < n → (∀ x, x ∈ Ld' → x.1 < 14 ∧ x.2 < 100000) → vcn Ld' ≤ m → PS κ s1' r1' a ta A iw q t n T (skp T n pd + 1) (skp T n pd + 1) Ld' Lr' m := fun s1' r1' Ld' Lr' a1 a2 a3 a4 a5 a6 => ⟨⟨a1, a2⟩, a3, rfl, hm, a5, a6⟩
    by_cases kM : tks T n pd 0 42 = true ∨ tks T n pd 0 47 = true
    · -- times, by
      have hlt : skp T n pd < n := by rcases kM with z | z <;> exact ((tk _).mp z).1
      obtain ⟨sg, hsg, hts, hrs⟩ : ∃ sg, (sg = 4 ∨ sg = 5) ∧ tsg T n pd 0 = nI sg ∧ ((T (skp T n pd) = 42 ∧ sg = 4) ∨ (T (skp T n pd) ≠ 42 ∧ sg = 5)) := by
        rcases kM with z | z
        · refine ⟨4, Or.inl rfl, ?_, Or.inl ⟨((tk _).mp z).2, rfl⟩⟩
          unfold tsg
          rw [tks_one z (show 42 ≠ 43 by decide), tks_one z (show 42 ≠ 45 by decide), z]
          rfl
        · refine ⟨5, Or.inr rfl, ?_, Or.inr ⟨by rw [((tk _).mp z).2]; decide, rfl⟩⟩
          unfold tsg
          rw [tks_one z (show 47 ≠ 43 by decide), tks_one z (show 47 ≠ 45 by decide), tks_one z (show 47 ≠ 42 by decide), z]
          rfl
      have hp1 : p1 = skp T n pd + 1 := q1' (by rw [hts]; exact wt_n (by omega))
      rw [hp1] at D1
      have dj : (nI sg : Int32) = 4 ∨ (nI sg : Int32) = 5 := by rcases hsg with rfl | rfl; exact Or.inl rfl; exact Or.inr rfl
      rw [hts]
      have dchoose : ∀ (X Y : Option AS), (if (nI sg : Int32) = 4 then X else if (nI sg : Int32) = 5 then X else Y) = X := fun X Y => by
        rcases dj with z | z
        · rw [if_pos z]
        · by_cases z4 : (nI sg : Int32) = 4
          · rw [if_pos z4]
          · rw [if_neg z4, if_pos z]
      rw [dchoose]
      -- the reference's side
      have hb42 := R1.1.1.2.2 (skp T n pd) hlt
      have rside : (if nxt T n pr = 42 then (grd (vp_in (gi r1 q 11) 400) (if gi r1 (q + 1) (gi r1 q 11).toNatClampNeg = 42 then (bnd2 (f_R_value κ q (ui r1 q 11 (gi r1 q 11 + 1))) (fun v12 s13 => if v12 = 0 then some ((0 : Int32), s13) else bnd (f_R_puts κ q 4 (0 : Int32) s13) (fun s14 => L_R_term_9 κ dt q s14))) else (bnd2 (f_R_value κ q (ui r1 q 11 (gi r1 q 11 + 1))) (fun v12 s13 => if v12 = 0 then some ((0 : Int32), s13) else bnd (f_R_puts κ q 5 (0 : Int32) s13) (fun s14 => L_R_term_9 κ dt q s14))))) else bnd2 (f_R_see κ q r1) (fun v5 s6 => if v5 = 47 then (grd (vp_in (gi s6 q 11) 400) (if gi s6 (q + 1) (gi s6 q 11).toNatClampNeg = 42 then (bnd2 (f_R_value κ q (ui s6 q 11 (gi s6 q 11 + 1))) (fun v12 s13 => if v12 = 0 then some ((0 : Int32), s13) else bnd (f_R_puts κ q 4 (0 : Int32) s13) (fun s14 => L_R_term_9 κ dt q s14))) else (bnd2 (f_R_value κ q (ui s6 q 11 (gi s6 q 11 + 1))) (fun v12 s13 => if v12 = 0 then some ((0 : Int32), s13) else bnd (f_R_puts κ q 5 (0 : Int32) s13) (fun s14 => L_R_term_9 κ dt q s14))))) else some ((1 : Int32), s6))) = ((fun (s6 : AS) => bnd2 (f_R_value κ q (ui s6 q 11 (nI (skp T n pd + 1)))) (fun v12 s13 => if v12 = 0 then some ((0 : Int32), s13) else bnd (f_R_puts κ q (nI sg) (0 : Int32) s13) (fun s14 => L_R_term_9 κ dt q s14))) (if sg = 4 then r1 else (match f_R_see κ q r1 with | some x => x.2 | none => r1))) := by
        rcases kM with z | z
        · have e42 : sg = 4 := by
            rcases hrs with y | y
            · exact y.2
            · exact absurd ((tk _).mp z).2 y.1
          subst e42
          rw [if_pos (show nxt T n pr = 42 from (nq 42 (by decide)).mpr z), R1.1.2.1, grd_t (vp_in_nI (by omega) (by decide)), nI_clamp (by omega), hb42.1, if_pos (by rw [((tk _).mp z).2]; rfl), nI_1]
          rfl
        · have e47 : sg = 5 := by
            rcases hrs with y | y
            · exact absurd y.1 (by rw [((tk _).mp z).2]; decide)
            · exact y.2
          subst e47
          rw [if_neg (show ¬ nxt T n pr = 42 from fun y => by have := (nq 42 (by decide)).mp y; rw [tks_one z (show 47 ≠ 42 by decide)] at this; cases this)]
          obtain ⟨r2, g2, k2, v2⟩ := r_see (κ := κ) R1.1
          have hss := skp_skp (T := T) hpn
          rw [hss] at k2
          rw [g2, bnd2_t, if_pos (show nxt T n (skp T n pd) = 47 by unfold nxt; rw [hss, if_pos hlt, ((tk _).mp z).2]; rfl), k2.2.1, grd_t (vp_in_nI (by omega) (by decide)), nI_clamp (by omega), (k2.1.2.2 _ hlt).1, if_neg (by rw [((tk _).mp z).2]; decide), nI_1]
          rfl
      rw [rside]
      -- the state at the value
      obtain ⟨r2, hr2, R2, v2⟩ : ∃ r2, (if sg = 4 then r1 else (match f_R_see κ q r1 with | some x => x.2 | none => r1)) = r2 ∧ RR_ r2 q t n T (skp T n pd) (nI m) (Lr ++ R) ∧ Same (rqW q) r1 r2 := by
        by_cases e4 : sg = 4
        · rw [if_pos e4]; exact ⟨r1, rfl, R1, Same.rf _ _⟩
        · rw [if_neg e4]
          obtain ⟨r2, g2, k2, v2⟩ := r_see (κ := κ) R1.1
          have hss := skp_skp (T := T) hpn
          rw [hss] at k2
          rw [g2]
          exact ⟨r2, rfl, R1.of k2 v2, v2⟩
      rw [hr2]
      simp only []
      have R3 := R2.of (R2.1.at (p' := skp T n pd + 1) (by omega)) (rq_11 (Same.rf _ _))
      have v3 : Same (pqW q t) rs (ui r2 q 11 (nI (skp T n pd + 1))) := rq_pq (rq_11 (v1.tr v2))
      have hP := valAt s1 _ (Ld ++ R) (Lr ++ R) D1 C1 R3 hlt hv hvc
      rcases E_value hc hP (by omega) (by omega) with ⟨ds2, rs2, x, p2, a1, a2, a3, a4, a5, a6, a7, a8⟩ | ⟨ds2, rs2, F, a1, a2, a3, a4, a5, a6⟩
      · rw [a1, bnd_t, a2, bnd2_t, if_neg (show ¬ (1 : Int32) = 0 by decide)]
        obtain ⟨⟨D2, C2⟩, R4, -, hm2, hv2, hvc2⟩ := a3
        have hp2n := D2.m.1
        have l1 : (Ld ++ R ++ [x]).length = (Ld ++ R).length + 1 := by rw [List.length_append]; rfl
        have l2 : (Lr ++ R ++ [x]).length = (Lr ++ R).length + 1 := by rw [List.length_append]; rfl
        rw [D2.2.1, bnd_t, grd_t hc.2.2.1]
        obtain ⟨r5, g5, k5, v5⟩ := r_puts (κ := κ) R4.2.1 ht R4.2.2 (by omega) (sg, 0) (y := nI sg) (z := 0) rfl rfl
        rw [g5, bnd_t]
        have C3 := d_add (κ := κ) C2 (by omega) (sg, 0) (y := nI sg) (z := 0) rfl rfl
        have w3 := d_add_same (κ := κ) ds2 A (nI sg) 0
        have D3 := D2.cd hc w3
        have R5 := R4.cd hc k5 v5
        have hP3 : PS κ (f_Cd_add κ A (nI sg) 0 ds2) r5 a ta A iw q t n T p2 p2 (Ld ++ (R ++ [x] ++ [(sg, 0)])) (Lr ++ (R ++ [x] ++ [(sg, 0)])) (m + 1) := by
          refine ⟨⟨D3, ?_⟩, ?_, rfl, hm2, ?_, ?_⟩
          · simpa only [List.append_assoc] using C3
          · simpa only [List.append_assoc] using R5
          · intro y hy
            simp only [← List.append_assoc] at hy
            rw [List.mem_append, List.mem_singleton] at hy
            rcases hy with hy | rfl
            · exact hv2 y hy
            · exact ⟨show sg < 14 by omega, show 0 < 100000 by decide⟩
          · simp only [← List.append_assoc]
            rw [vcn_app]
            have : vcn [(sg, 0)] = 0 := by
              show (if sg < 2 then 1 else 0) + 0 = 0
              rw [if_neg (by omega)]
            omega
        have i1 := ih (n - p2) (by omega) p2 p2 (m + 1) (dd + 1) dt (dsu + 1) (x3 + 1) w Ld Lr (R ++ [x] ++ [(sg, 0)]) _ r5 rfl hP3 (wtg_mul hw a4 hsg) hl1 (by
          have : (R ++ [x] ++ [(sg, 0)]).length = R.length + 2 := by simp only [List.length_append, List.length_cons, List.length_nil]
          omega) (by omega) (by omega) (by omega) (by omega)
        rw [nI_1]
        unfold rTm at i1
        have fw : Same (pdW a A) ds (f_Cd_add κ A (nI sg) 0 ds2) := ((rd_pd w1).tr a7).tr (cd_pd w3)
        have fv : Same (pqW q t) rs r5 := (v3.tr a8).tr (cq_pq v5)
        rcases i1 with ⟨ds', rs', R', pd', pr', m', b1, b2, b3, b4, b5, b6, b8, b9⟩ | ⟨ds', rs', F, b1, b2, b3, b4, b5, b6⟩
        · left
          exact ⟨ds', rs', R', pd', pr', m', b1, b2, b3, b4, by omega, b6, fw.tr b8, fv.tr b9⟩
        · right
          exact ⟨ds', rs', F, b1, b2, b3, b4, fw.tr b5, fv.tr b6⟩
      · right
        rw [a1, bnd_t, a3, bnd2_t, if_pos (show (0 : Int32) = 0 from rfl), bnd2_t, if_pos (show (0 : Int32) = 0 from rfl)]
        obtain ⟨FF, p2, m2, D2⟩ := a2
        rw [D2.2.1, bnd_t, grd_t hc.2.2.1]
        have w3 := d_add_same (κ := κ) ds2 A (nI sg) 0
        obtain ⟨ds3, c1, c2, c3⟩ := F_sumL hc (FS.mk FF.1 FF.2 (D2.cd hc w3)) (oI w) (x3 := x3 + 1) (by omega) (dd - 1)
        rw [nI_1]
        rw [show dd - 1 + 2 = dd + 1 by omega] at c1
        exact ⟨ds3, rs2, F, c1, c2, rfl, a4, ((((rd_pd w1).tr a5).tr (cd_pd w3)).tr c3), v3.tr a6⟩
    · -- the term is over
      have n42 : ¬ nxt T n pr = 42 := fun z => kM (Or.inl ((nq 42 (by decide)).mp z))
      have n47 : ¬ nxt T n (skp T n pd) = 47 := fun z => kM (Or.inr (by
        rw [tk]
        unfold nxt at z
        rw [skp_skp (T := T) hpn] at z
        by_cases hlt : skp T n pd < n
        · have := hT hlt
          rw [if_pos hlt] at z
          exact ⟨hlt, (nI_eq (b := 47) (by omega) (by decide)).mp z⟩
        · rw [if_neg hlt] at z
          exact absurd z (by decide)))
      rw [if_neg n42]
      obtain ⟨r2, g2, k2, v2⟩ := r_see (κ := κ) R1.1
      have hss := skp_skp (T := T) hpn
      rw [hss] at k2
      have R2 := R1.of k2 v2
      rw [g2, bnd2_t, if_neg n47, bnd2_t, if_neg (show ¬ (1 : Int32) = 0 by decide)]
      have k42 : tks T n pd 0 42 = false := Bool.eq_false_iff.mpr (fun z => kM (Or.inl z))
      have k47 : tks T n pd 0 47 = false := Bool.eq_false_iff.mpr (fun z => kM (Or.inr z))
      have dneg : ¬ tsg T n pd 0 = 4 ∧ ¬ tsg T n pd 0 = 5 := by
        unfold tsg
        rw [k42, k47]
        by_cases z1 : tks T n pd 0 43 = true
        · rw [if_pos z1]; decide
        · rw [if_neg z1]
          by_cases z2 : tks T n pd 0 45 = true
          · rw [if_pos z2]; decide
          · rw [if_neg z2]; decide
      rw [if_neg dneg.1, if_neg dneg.2]
      -- the sign that waited is put on both sides
      obtain ⟨s2, r3, D2, C2, R3, hcd, hcr, fw, fv⟩ : ∃ s2 r3, DR κ s2 a ta A iw n T p1 0 (nI m) ∧ CDL s2 A (Ld ++ (R ++ wCode w)) ∧ RR_ r3 q t n T (skp T n pd) (nI m) (Lr ++ (R ++ wCode w)) ∧ (∀ (X : AS → Option AS), (if oI w = -1 then X s1 else bnd (gr s1 a 5) (fun c5 => grd (ly κ c5 = (0, 4)) (X (f_Cd_add κ c5 (oI w) 0 s1)))) = X s2) ∧ cnt_ κ q (dsu + 1) w r2 = L_R_sum_9 κ (dsu + 1) q r3 ∧ Same (pdW a A) ds s2 ∧ Same (pqW q t) rs r3 := by
        cases w with
        | none =>
          refine ⟨s1, r2, D1, ?_, ?_, fun X => by rw [if_pos (show oI none = -1 from rfl)], rfl, rd_pd w1, rq_pq (v1.tr v2)⟩
          · rw [wCode, List.append_nil]; exact C1
          · rw [wCode, List.append_nil]; exact R2
        | some sg =>
          have hsg := hw23 sg rfl
          rw [wCode] at hl2
          simp only [List.length_cons, List.length_nil] at hl2
          have w3 := d_add_same (κ := κ) s1 A (nI sg) 0
          obtain ⟨r3, g3, k3, v3⟩ := r_puts (κ := κ) R2.2.1 ht R2.2.2 (by omega) (sg, 0) (y := nI sg) (z := 0) rfl rfl
          refine ⟨f_Cd_add κ A (nI sg) 0 s1, r3, D1.cd hc w3, ?_, ?_, fun X => by rw [if_neg (show ¬ oI (some sg) = -1 from wt_n (by omega)), D1.2.1, bnd_t, grd_t hc.2.2.1]; rfl, by unfold cnt_; simp only [g3, bnd_t], (rd_pd w1).tr (cd_pd w3), (rq_pq (v1.tr v2)).tr (cq_pq v3)⟩
          · rw [wCode, ← List.append_assoc]
            exact d_add C1 (by omega) (sg, 0) rfl rfl
          · rw [wCode, ← List.append_assoc]
            exact R2.cd hc k3 v3
      have hX := hcd (fun s => if (if tsg T n pd 0 = -1 then (0 : Int32) else 1) = 0 then L_Rd_sum_10 κ iw (dd + 1) a (tsg T n pd 0) (if tsg T n pd 0 = -1 then 0 else 1) (nI x3 + 1) s else bnd (f_Rd_value κ iw a s) fun s11 => L_Rd_sum_10 κ iw (dd + 1) a (tsg T n pd 0) (if tsg T n pd 0 = -1 then 0 else 1) (nI x3 + 1) s11)
      rw [hX]
      rw [hcr, L_R_sum_9]
      simp only [jn_e]
      have hvw : (∀ x, x ∈ Ld ++ (R ++ wCode w) → x.1 < 14 ∧ x.2 < 100000) ∧ vcn (Ld ++ (R ++ wCode w)) ≤ m := by
        rw [← List.append_assoc, vcn_app]
        have hz : vcn (wCode w) = 0 ∧ ∀ x, x ∈ wCode w → x.1 < 14 ∧ x.2 < 100000 := by
          cases w with
          | none => exact ⟨rfl, fun x hx => by cases hx⟩
          | some sg =>
            have hsg := hw23 sg rfl
            refine ⟨?_, fun x hx => ?_⟩
            · show (if sg < 2 then 1 else 0) + 0 = 0
              rw [if_neg (by omega)]
            · rw [wCode, List.mem_singleton] at hx
              subst hx
              exact ⟨show sg < 14 by omega, show 0 < 100000 by decide⟩
        refine ⟨fun x hx => ?_, by omega⟩
        rw [List.mem_append] at hx
        rcases hx with hx | hx
        · exact hv x hx
        · exact hz.2 x hx
      obtain ⟨r4, g4, k4, v4⟩ := r_see (κ := κ) R3.1
      rw [hss] at k4
      have R4 := R3.of k4 v4
      have hnx2 : nxt T n (skp T n pd) = nxt T n pr := by rw [hnx]; unfold nxt; rw [hss]
      rw [g4, bnd2_t, hnx2]
      have lw1 : (Ld ++ (R ++ wCode w)).length = (Ld ++ R).length + (wCode w).length := by simp only [List.length_append]; omega
      have lw2 : (Lr ++ (R ++ wCode w)).length = (Lr ++ R).length + (wCode w).length := by simp only [List.length_append]; omega
      by_cases kP : tks T n pd 0 43 = true ∨ tks T n pd 0 45 = true
      · have hlt : skp T n pd < n := by rcases kP with z | z <;> exact ((tk _).mp z).1
        obtain ⟨sg, hsg, hts, hrs⟩ : ∃ sg, (sg = 2 ∨ sg = 3) ∧ tsg T n pd 0 = nI sg ∧ ((T (skp T n pd) = 43 ∧ sg = 2) ∨ (T (skp T n pd) = 45 ∧ sg = 3)) := by
          rcases kP with z | z
          · refine ⟨2, Or.inl rfl, ?_, Or.inl ⟨((tk _).mp z).2, rfl⟩⟩
            unfold tsg
            rw [z]
            rfl
          · refine ⟨3, Or.inr rfl, ?_, Or.inr ⟨((tk _).mp z).2, rfl⟩⟩
            unfold tsg
            rw [tks_one z (show 45 ≠ 43 by decide), z]
            rfl
        have hp1 : p1 = skp T n pd + 1 := q1' (by rw [hts]; exact wt_n (by omega))
        rw [hp1] at D2
        rw [hts, if_neg (show ¬ (nI sg : Int32) = -1 from wt_n (by omega)), if_neg (show ¬ (1 : Int32) = 0 by decide)]
        -- the reference's side
        obtain ⟨r5, hr5, R5, v5⟩ : ∃ r5, (if nxt T n pr = 43 then (grd (vp_in (gi r4 q 11) 400) (if gi r4 (q + 1) (gi r4 q 11).toNatClampNeg = 43 then (bnd2 (f_R_term κ q (ui r4 q 11 (gi r4 q 11 + 1))) (fun v12 s13 => if v12 = 0 then some ((0 : Int32), s13) else bnd (f_R_puts κ q 2 (0 : Int32) s13) (fun s14 => L_R_sum_9 κ dsu q s14))) else (bnd2 (f_R_term κ q (ui r4 q 11 (gi r4 q 11 + 1))) (fun v12 s13 => if v12 = 0 then some ((0 : Int32), s13) else bnd (f_R_puts κ q 3 (0 : Int32) s13) (fun s14 => L_R_sum_9 κ dsu q s14))))) else bnd2 (f_R_see κ q r4) (fun v5 s6 => if v5 = 45 then (grd (vp_in (gi s6 q 11) 400) (if gi s6 (q + 1) (gi s6 q 11).toNatClampNeg = 43 then (bnd2 (f_R_term κ q (ui s6 q 11 (gi s6 q 11 + 1))) (fun v12 s13 => if v12 = 0 then some ((0 : Int32), s13) else bnd (f_R_puts κ q 2 (0 : Int32) s13) (fun s14 => L_R_sum_9 κ dsu q s14))) else (bnd2 (f_R_term κ q (ui s6 q 11 (gi s6 q 11 + 1))) (fun v12 s13 => if v12 = 0 then some ((0 : Int32), s13) else bnd (f_R_puts κ q 3 (0 : Int32) s13) (fun s14 => L_R_sum_9 κ dsu q s14))))) else some ((1 : Int32), s6))) = bnd2 (f_R_term κ q (ui r5 q 11 (nI (skp T n pd + 1)))) (fun v12 s13 => if v12 = 0 then some ((0 : Int32), s13) else bnd (f_R_puts κ q (nI sg) (0 : Int32) s13) (fun s14 => L_R_sum_9 κ dsu q s14)) ∧ RR_ r5 q t n T (skp T n pd) (nI m) (Lr ++ (R ++ wCode w)) ∧ Same (rqW q) r4 r5 := by
          have hb := R4.1.1.2.2 (skp T n pd) hlt
          rcases hrs with ⟨y, rfl⟩ | ⟨y, rfl⟩
          · refine ⟨r4, ?_, R4, Same.rf _ _⟩
            rw [if_pos (show nxt T n pr = 43 from (nq 43 (by decide)).mpr ((tk _).mpr ⟨hlt, y⟩)), R4.1.2.1, grd_t (vp_in_nI (by omega) (by decide)), nI_clamp (by omega), hb.1, if_pos (by rw [y]; rfl), nI_1]
            rfl
          · obtain ⟨r5, g5, k5, v5⟩ := r_see (κ := κ) R4.1
            rw [hss] at k5
            refine ⟨r5, ?_, R4.of k5 v5, v5⟩
            rw [if_neg (show ¬ nxt T n pr = 43 from fun z => by have := ((tk _).mp ((nq 43 (by decide)).mp z)).2; omega), g5, bnd2_t, hnx2, if_pos (show nxt T n pr = 45 from (nq 45 (by decide)).mpr ((tk _).mpr ⟨hlt, y⟩)), k5.2.1, grd_t (vp_in_nI (by omega) (by decide)), nI_clamp (by omega), (k5.1.2.2 _ hlt).1, if_neg (by rw [y]; decide), nI_1]
            rfl
        rw [hr5]
        have R6 := R5.of (R5.1.at (p' := skp T n pd + 1) (by omega)) (rq_11 (Same.rf _ _))
        have fv6 : Same (pqW q t) rs (ui r5 q 11 (nI (skp T n pd + 1))) := fv.tr (rq_pq (rq_11 (v4.tr v5)))
        have hP := valAt s2 _ _ _ D2 C2 R6 hlt hvw.1 hvw.2
        unfold f_R_term
        rcases E_value hc hP (by omega) (by omega) with ⟨ds2, rs2, x, p2, a1, a2, a3, a4, a5, a6, a7, a8⟩ | ⟨ds2, rs2, F, a1, a2, a3, a4, a5, a6⟩
        · rw [a1, bnd_t, a2, bnd2_t, if_neg (show ¬ (1 : Int32) = 0 by decide)]
          have hp2n := a3.1.1.m.1
          have hP3 : PS κ ds2 rs2 a ta A iw q t n T p2 p2 (Ld ++ (R ++ wCode w ++ [x])) (Lr ++ (R ++ wCode w ++ [x])) (m + 1) := by
            simpa only [List.append_assoc] using a3
          have i1 := ih (n - p2) (by omega) p2 p2 (m + 1) (dd + 1) FU dsu (x3 + 1) (some sg) Ld Lr (R ++ wCode w ++ [x]) ds2 rs2 rfl hP3 ⟨hsg, _, _, rfl, wtg_end hw, a4⟩ hl1 (by
            have : (R ++ wCode w ++ [x]).length = R.length + (wCode w).length + 1 := by simp only [List.length_append, List.length_cons, List.length_nil]
            rw [wCode]
            simp only [List.length_cons, List.length_nil]
            omega) (by omega) (by omega) (by unfold FU; omega) (by omega)
          rw [nI_1]
          unfold rTm cnt_ at i1
          have fw2 := fw.tr a7
          have fv2 := fv6.tr a8
          have cm : ∀ (o : Option (Int32 × AS)), bnd2 o (fun v12 s13 => if v12 = 0 then some ((0 : Int32), s13) else bnd (f_R_puts κ q (nI sg) (0 : Int32) s13) (fun s14 => L_R_sum_9 κ dsu q s14)) = bnd2 o (fun v s2 => if v = 0 then some (0, s2) else bnd (f_R_puts κ q (nI sg) 0 s2) (fun s' => L_R_sum_9 κ dsu q s')) := fun o => rfl
          rcases i1 with ⟨ds', rs', R', pd', pr', m', b1, b2, b3, b4, b5, b6, b8, b9⟩ | ⟨ds', rs', F, b1, b2, b3, b4, b5, b6⟩
          · left
            exact ⟨ds', rs', R', pd', pr', m', b1, b2, b3, b4, by omega, b6, fw2.tr b8, fv2.tr b9⟩
          · right
            exact ⟨ds', rs', F, b1, b2, b3, b4, fw2.tr b5, fv2.tr b6⟩
        · right
          rw [a1, bnd_t, a3, bnd2_t, if_pos (show (0 : Int32) = 0 from rfl), bnd2_t, if_pos (show (0 : Int32) = 0 from rfl)]
          obtain ⟨ds3, c1, c2, c3⟩ := F_sumL hc a2 (nI sg) (x3 := x3 + 1) (by omega) (dd - 1)
          rw [nI_1]
          rw [show dd - 1 + 2 = dd + 1 by omega] at c1
          exact ⟨ds3, rs2, F, c1, c2, rfl, a4, (fw.tr a5).tr c3, fv6.tr a6⟩
      · -- the sum is over
        left
        have k43 : tks T n pd 0 43 = false := Bool.eq_false_iff.mpr (fun z => kP (Or.inl z))
        have k45 : tks T n pd 0 45 = false := Bool.eq_false_iff.mpr (fun z => kP (Or.inr z))
        have hts : tsg T n pd 0 = -1 := by unfold tsg; rw [k43, k45, k42, k47]; rfl
        have hp1 := (q1 hts).2 rfl
        rw [hp1] at D2
        rw [hts, if_pos (show (-1 : Int32) = -1 from rfl), if_pos (show (0 : Int32) = 0 from rfl), L_Rd_sum_10, if_pos (show (0 : Int32) = 0 from rfl), ite_self]
        rw [if_neg (show ¬ nxt T n pr = 43 from fun z => kP (Or.inl ((nq 43 (by decide)).mp z)))]
        obtain ⟨r5, g5, k5, v5⟩ := r_see (κ := κ) R4.1
        rw [hss] at k5
        rw [g5, bnd2_t, hnx2, if_neg (show ¬ nxt T n pr = 45 from fun z => kP (Or.inr ((nq 45 (by decide)).mp z)))]
        refine ⟨s2, r5, R ++ wCode w, skp T n pd, skp T n pd, m, rfl, rfl, ⟨⟨D2, C2⟩, R4.of k5 v5, rfl, hm, hvw.1, hvw.2⟩, wtg_end hw, hlo.1, by rw [List.length_append]; omega, fw, fv.tr (rq_pq (v4.tr v5))⟩
theorem E_sum (hc : PC κ a ta A t iw) {pd pr m : Nat} {Ld Lr : List (Nat × Nat)} {ds rs : AS} (h : PS κ ds rs a ta A iw q t n T pd pr Ld Lr m) (hl1 : Ld.length ≤ pd) (hl2 : Lr.length ≤ pd) :
    GOOD κ a ta A iw q t n T Ld Lr pd SumR (f_Rd_sum κ iw a ds) (f_R_sum κ q rs) ds rs ∨ BAD κ a ta A iw q t n T (f_Rd_sum κ iw a ds) (f_R_sum κ q rs) ds rs := by
  unfold f_Rd_sum f_R_sum f_R_term
  rcases E_value hc h hl1 hl2 with ⟨ds2, rs2, x, p2, a1, a2, a3, a4, a5, a6, a7, a8⟩ | ⟨ds2, rs2, F, a1, a2, a3, a4, a5, a6⟩
  · rw [a1, bnd_t, a2, bnd2_t, if_neg (show ¬ (1 : Int32) = 0 by decide)]
    have l1 : (Ld ++ [x]).length = Ld.length + 1 := by rw [List.length_append]; rfl
    have l2 : (Lr ++ [x]).length = Lr.length + 1 := by rw [List.length_append]; rfl
    have i1 := E_sumL (κ := κ) (q := q) (T := T) hc pd (n - p2) p2 p2 (m + 1) FU FU FU 0 none Ld Lr [x] ds2 rs2 rfl a3 a4 ⟨hl1, hl2⟩ (by rw [wCode]; simp only [List.length_cons, List.length_nil]; omega) (by omega) (by unfold FU; omega) (by unfold FU; omega) (by unfold FU; omega)
    unfold rTm cnt_ at i1
    rcases i1 with ⟨ds', rs', R', pd', pr', m', b1, b2, b3, b4, b5, b6, b8, b9⟩ | ⟨ds', rs', F, b1, b2, b3, b4, b5, b6⟩
    · left
      exact ⟨ds', rs', R', pd', pr', m', b1, b2, b3, b4, by omega, b6, a7.tr b8, a8.tr b9⟩
    · right
      exact ⟨ds', rs', F, b1, b2, b3, b4, a7.tr b5, a8.tr b6⟩
  · right
    rw [a1, bnd_t, a3, bnd2_t, if_pos (show (0 : Int32) = 0 from rfl), bnd2_t, if_pos (show (0 : Int32) = 0 from rfl)]
    obtain ⟨ds3, c1, c2, c3⟩ := F_sumL hc a2 (-1) (x3 := 0) (by decide) (FU - 2)
    exact ⟨ds3, rs2, F, c1, c2, rfl, a4, a5.tr c3, a6⟩
end Sum
