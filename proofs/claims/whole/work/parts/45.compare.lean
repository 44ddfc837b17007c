/-! a fact made of a sign, both readers -/
/-- the class's fact made of a sign -/
noncomputable def cmpD (κ : Ko) (iw a : Nat) (s11 : AS) : Option AS := bnd (f_Rd_sum κ iw a s11) (fun s14 => bnd2 (f_Rd_nextPlace κ a s14) (fun v15 s16 => bnd2 (f_Rd_factSign κ a s16) (fun v17 s18 => bnd (f_Rd_sum κ iw a (f_Rd_countValue κ a v15 s18)) (fun s19 => bnd (gr s19 a 5) (fun c21 => grd (ly κ c21 = (0, 4)) (some (f_Cd_add κ c21 v17 (0 : Int32) s19)))))))
/-- the reference's: its end, and the way there -/
noncomputable def cmpB (κ : Ko) (a0 : Nat) (v3 v7 v12 : Int32) (s15 : AS) : Option (Int32 × AS) := bnd2 (f_R_makes κ a0 v7 s15) (fun v16 s17 => if v16 = 0 then some ((0 : Int32), s17) else bnd2 (f_R_sum κ a0 s17) (fun v18 s19 => if v18 = 0 then some ((0 : Int32), s19) else bnd (f_R_puts κ a0 ((6 : Int32) + (if v3 = 60 then (if v12 = 0 then (0 : Int32) else (1 : Int32) : Int32) else (if v3 = 61 then (2 : Int32) else (if v12 = 0 then (4 : Int32) else (3 : Int32) : Int32) : Int32) : Int32)) (0 : Int32) s19) (fun s20 => some ((1 : Int32), s20))))
noncomputable def cmpT (κ : Ko) (a0 : Nat) (v3 : Int32) (s4 : AS) : Option (Int32 × AS) := jn (fun (v7 : Int32) => jn (fun (v12 : Int32) (s13 : AS) => jn (fun (s15 : AS) => cmpB κ a0 v3 v7 v12 s15) fun j14 => if v12 = 0 then j14 s13 else j14 (ui s13 a0 11 ((gi s13 a0 11) + 1))) fun j11 => jn (fun (s10 : AS) => j11 (0 : Int32) s10) fun j9 => if v3 = 61 then j9 (ui s4 a0 11 ((gi s4 a0 11) + 1)) else if (gi (ui s4 a0 11 ((gi s4 a0 11) + 1)) a0 1) ≤ (gi (ui s4 a0 11 ((gi s4 a0 11) + 1)) a0 11) then j9 (ui s4 a0 11 ((gi s4 a0 11) + 1)) else grd (vp_in (gi (ui s4 a0 11 ((gi s4 a0 11) + 1)) a0 11) 400) (if (gi (ui s4 a0 11 ((gi s4 a0 11) + 1)) (a0 + 1) (gi (ui s4 a0 11 ((gi s4 a0 11) + 1)) a0 11 : Int32).toNatClampNeg) = 61 then j11 (1 : Int32) (ui s4 a0 11 ((gi s4 a0 11) + 1)) else j9 (ui s4 a0 11 ((gi s4 a0 11) + 1)))) fun j6 => if v3 = 60 then j6 (gi s4 a0 11) else if v3 = 61 then j6 (gi s4 a0 11) else if v3 = 62 then j6 (gi s4 a0 11) else grd (((f_R_fails κ a0 (0 : Int32) (gi s4 a0 11) s4).1) = 0 ∨ ((f_R_fails κ a0 (0 : Int32) (gi s4 a0 11) s4).1) = 1) (some (((f_R_fails κ a0 (0 : Int32) (gi s4 a0 11) s4).1), ((f_R_fails κ a0 (0 : Int32) (gi s4 a0 11) s4).2)))
theorem f_R_compare_e (κ : Ko) (a0 : Nat) (st : AS) : f_R_compare κ a0 st = bnd2 (f_R_sum κ a0 st) (fun v1 s2 => if v1 = 0 then some ((0 : Int32), s2) else bnd2 (f_R_see κ a0 s2) (fun v3 s4 => cmpT κ a0 v3 s4)) := rfl
/-- which sign stands at b, none; and whether a = stands close behind -/
def sgn (T : Nat → Nat) (n b : Nat) : Option (Nat × Nat) :=
  if b < n then (if T b = 61 then some (8, b + 1) else if T b = 60 then (if b + 1 < n ∧ T (b + 1) = 61 then some (7, b + 2) else some (6, b + 1)) else if T b = 62 then (if b + 1 < n ∧ T (b + 1) = 61 then some (9, b + 2) else some (10, b + 1)) else none) else none
/-- the class's end of a sign -/
noncomputable def fsT (κ : Ko) (a0 : Nat) (v3 : Int32) (s8 : AS) : Option (Int32 × AS) := jn (fun (v14 : Int32) => jn (fun (s16 : AS) => some ((if v3 = 0 then (if v14 = 0 then (10 : Int32) else (9 : Int32) : Int32) else (if v14 = 0 then (6 : Int32) else (7 : Int32) : Int32) : Int32), s16)) fun j15 => if v14 = 0 then j15 s8 else j15 (ui s8 a0 2 ((gi s8 a0 2) + 1))) fun j13 => jn (j13 (0 : Int32)) fun j12 => if (gi s8 a0 3) = 0 then if (gi s8 a0 1) ≤ (gi s8 a0 2) then j12 else bnd (gr s8 a0 0) (fun c10 => grd (ly κ c10 = (50, 400)) (if (gat (gi s8 c10) 400 (gi s8 a0 2)) = 61 then j13 (1 : Int32) else j12)) else j12
theorem f_Rd_factSign_e (κ : Ko) (a0 : Nat) (st : AS) : f_Rd_factSign κ a0 st = bnd2 (f_Rd_takesByte κ a0 (61 : Int32) st) (fun v1 s2 => if v1 = 0 then bnd2 (f_Rd_takesByte κ a0 (60 : Int32) s2) (fun v3 s4 => if v3 = 0 then bnd2 (f_Rd_takesByte κ a0 (62 : Int32) s4) (fun v5 s6 => if v5 = 0 then fsT κ a0 v3 (f_Rd_fail κ a0 (gi s6 a0 2) (0 : Int32) s6) else fsT κ a0 v3 s6) else fsT κ a0 v3 s4) else some ((8 : Int32), s2)) := rfl
section FactSign
variable {κ : Ko} {st : AS} {a ta n p : Nat} {T : Nat → Nat} {f m : Int32}
/-- the sign with or without a = behind it -/
def fsv (v3 : Int32) (o : Bool) : Nat := if v3 = 0 then (if o then 9 else 10) else (if o then 7 else 6)
theorem d_fsT (h : RS κ st a ta n T p 0 m) (v3 : Int32) : ∃ st', fsT κ a v3 st = some (nI (fsv v3 (decide (p < n ∧ T p = 61))), st') ∧ RS κ st' a ta n T (if p < n ∧ T p = 61 then p + 1 else p) 0 m ∧ Same (rdW a) st st' := by
  have hp := h.2.2.1
  have hn := h.1.2.2.1
  have v0 : (if v3 = 0 then (10 : Int32) else 6) = nI (fsv v3 false) := by
    unfold fsv
    by_cases z : v3 = 0
    · rw [if_pos z, if_pos z]; rfl
    · rw [if_neg z, if_neg z]; rfl
  have v1 : (if v3 = 0 then (9 : Int32) else 7) = nI (fsv v3 true) := by
    unfold fsv
    by_cases z : v3 = 0
    · rw [if_pos z, if_pos z]; rfl
    · rw [if_neg z, if_neg z]; rfl
  unfold fsT
  rw [jn_e, jn_e]
  simp only [jn_e]
  rw [h.2.2.2.1, h.1.2.2.2.1, h.2.1]
  simp only [if_true, show ((1 : Int32) = 0) = False from by decide, if_false, v0, v1]
  by_cases hb : p < n
  · have hb' := h.1.2.2.2.2.1 p hb
    rw [if_neg (show ¬ nI n ≤ nI p from nI_ge hb (by omega)), h.1.1, bnd_t, grd_t h.1.2.1, gat_n rfl (by omega) (by decide), hb'.1]
    have c61 := (nI_ltk (m := T p) (k := 61) (y := 61) rfl (by omega) (by decide)).2.2.2.2
    simp only [c61]
    by_cases h61 : T p = 61
    · rw [if_pos h61, nI_1, if_pos (show p < n ∧ T p = 61 from ⟨hb, h61⟩), decide_eq_true (show p < n ∧ T p = 61 from ⟨hb, h61⟩)]
      exact ⟨_, rfl, h.at (by omega), rd_2 (Same.rf _ _)⟩
    · rw [if_neg h61, if_neg (show ¬ (p < n ∧ T p = 61) from fun z => h61 z.2), decide_eq_false (show ¬ (p < n ∧ T p = 61) from fun z => h61 z.2)]
      exact ⟨st, rfl, h, Same.rf _ _⟩
  · rw [if_pos (show nI n ≤ nI p from nI_le (by omega) (by omega)), if_neg (show ¬ (p < n ∧ T p = 61) from fun z => hb z.1), decide_eq_false (show ¬ (p < n ∧ T p = 61) from fun z => hb z.1)]
    exact ⟨st, rfl, h, Same.rf _ _⟩
theorem F_fsT {F : Nat} (F0 : 0 < F) (F1 : F < 4000) (h : gi st a 3 = nI F) (v3 : Int32) : ∃ v, fsT κ a v3 st = some (v, st) := by
  unfold fsT
  simp only [jn_e]
  rw [h, if_neg (nI_ne0 F0 (by omega))]
  simp only [if_true]
  exact ⟨_, rfl⟩
theorem sgn_61 {b : Nat} (hb : b < n) (h : T b = 61) : sgn T n b = some (8, b + 1) := by unfold sgn; rw [if_pos hb, if_pos h]
theorem sgn_60 {b : Nat} (hb : b < n) (h : T b = 60) : sgn T n b = some (fsv 1 (decide (b + 1 < n ∧ T (b + 1) = 61)), if b + 1 < n ∧ T (b + 1) = 61 then b + 2 else b + 1) := by
  unfold sgn fsv
  rw [if_pos hb, if_neg (by omega), if_pos h, if_neg (show ¬ (1 : Int32) = 0 by decide)]
  by_cases z : b + 1 < n ∧ T (b + 1) = 61
  · rw [if_pos z, if_pos z, decide_eq_true z]; rfl
  · rw [if_neg z, if_neg z, decide_eq_false z]; rfl
theorem sgn_62 {b : Nat} (hb : b < n) (h : T b = 62) : sgn T n b = some (fsv 0 (decide (b + 1 < n ∧ T (b + 1) = 61)), if b + 1 < n ∧ T (b + 1) = 61 then b + 2 else b + 1) := by
  unfold sgn fsv
  rw [if_pos hb, if_neg (by omega), if_neg (by omega), if_pos h, if_pos (show (0 : Int32) = 0 from rfl)]
  by_cases z : b + 1 < n ∧ T (b + 1) = 61
  · rw [if_pos z, if_pos z, decide_eq_true z]; rfl
  · rw [if_neg z, if_neg z, decide_eq_false z]; rfl
theorem d_factSign (h : RS κ st a ta n T p 0 m) : ∃ v p' st', f_Rd_factSign κ a st = some (v, st') ∧ RS κ st' a ta n T p' (match sgn T n (skp T n p) with | some _ => 0 | none => nI (1 + 8 * skp T n p + 0)) m ∧ (∀ s e, sgn T n (skp T n p) = some (s, e) → v = nI s ∧ p' = e) ∧ Same (rdW a) st st' := by
  have hp := h.2.2.1
  have hn := h.1.2.2.1
  have hss := skp_skp (T := T) hp
  have hlo := skp_lo (T := T) hp
  rw [f_Rd_factSign_e]
  have tk : ∀ b, tks T n p 0 b = true ↔ (skp T n p < n ∧ T (skp T n p) = b) := fun b => by unfold tks; rw [decide_eq_true_eq]; exact ⟨fun z => z.2, fun z => ⟨rfl, z⟩⟩
  have unq : ∀ (s0 e0 : Nat), ∀ s e, some (s0, e0) = some (s, e) → nI s0 = nI s ∧ e0 = e := fun s0 e0 s e z => by
    have := Option.some.inj z
    rw [Prod.mk.injEq] at this
    rw [this.1]
    exact ⟨rfl, this.2⟩
  by_cases k1 : tks T n p 0 61 = true
  · obtain ⟨s1, e1, h1, w1⟩ := d_takes1 h (x := 61) (b := 61) rfl (by decide) k1
    rw [e1, bnd2_t, if_neg (show ¬ (1 : Int32) = 0 by decide), sgn_61 ((tk _).mp k1).1 ((tk _).mp k1).2]
    exact ⟨8, _, s1, rfl, h1, unq 8 _, w1⟩
  · obtain ⟨p1, s1, e1, h1, -, q1, w1⟩ := d_takes0 h (x := 61) (b := 61) rfl (by decide) (Bool.eq_false_iff.mpr k1)
    rw [q1 rfl] at h1
    rw [e1, bnd2_t, if_pos (show (0 : Int32) = 0 from rfl)]
    by_cases k2 : tks T n p 0 60 = true
    · obtain ⟨s2, e2, h2, w2⟩ := d_takes1 h1 (x := 60) (b := 60) rfl (by decide) (by rw [tks_eq hss]; exact k2)
      rw [hss] at h2
      have hk := (tk _).mp k2
      obtain ⟨s3, e3, h3, w3⟩ := d_fsT h2 1
      rw [e2, bnd2_t, if_neg (show ¬ (1 : Int32) = 0 by decide), e3, sgn_60 hk.1 hk.2]
      exact ⟨_, _, s3, rfl, h3, unq _ _, (w1.tr w2).tr w3⟩
    · obtain ⟨p2, s2, e2, h2, -, q2, w2⟩ := d_takes0 h1 (x := 60) (b := 60) rfl (by decide) (by rw [tks_eq hss]; exact Bool.eq_false_iff.mpr k2)
      rw [q2 rfl, hss] at h2
      rw [e2, bnd2_t, if_pos (show (0 : Int32) = 0 from rfl)]
      by_cases k3 : tks T n p 0 62 = true
      · obtain ⟨s3, e3, h3, w3⟩ := d_takes1 h2 (x := 62) (b := 62) rfl (by decide) (by rw [tks_eq hss]; exact k3)
        rw [hss] at h3
        have hk := (tk _).mp k3
        obtain ⟨s4, e4, h4, w4⟩ := d_fsT h3 0
        rw [e3, bnd2_t, if_neg (show ¬ (1 : Int32) = 0 by decide), e4, sgn_62 hk.1 hk.2]
        exact ⟨_, _, s4, rfl, h4, unq _ _, ((w1.tr w2).tr w3).tr w4⟩
      · obtain ⟨p3, s3, e3, h3, -, q3, w3⟩ := d_takes0 h2 (x := 62) (b := 62) rfl (by decide) (by rw [tks_eq hss]; exact Bool.eq_false_iff.mpr k3)
        rw [q3 rfl, hss] at h3
        obtain ⟨s4, e4, h4, w4⟩ := d_fail h3 (x := nI (skp T n p)) (y := 0) (b := skp T n p) (k := 0) rfl rfl
        rw [ffl_0] at h4
        obtain ⟨v, e5⟩ := F_fsT (κ := κ) (F := 1 + 8 * skp T n p + 0) (by omega) (by omega) h4.2.2.2.1 0
        rw [e3, bnd2_t, if_pos (show (0 : Int32) = 0 from rfl), h3.2.1, e4, e5]
        have hs : sgn T n (skp T n p) = none := by
          unfold sgn
          by_cases hlt : skp T n p < n
          · rw [if_pos hlt, if_neg (fun z => k1 ((tk _).mpr ⟨hlt, z⟩)), if_neg (fun z => k2 ((tk _).mpr ⟨hlt, z⟩)), if_neg (fun z => k3 ((tk _).mpr ⟨hlt, z⟩))]
          · rw [if_neg hlt]
        rw [hs]
        exact ⟨_, _, s4, rfl, h4, (fun s e z => by cases z), ((w1.tr w2).tr w3).tr w4⟩
end FactSign
section Compare
variable {κ : Ko} {a ta A t iw n q : Nat} {T : Nat → Nat}
theorem F_factSign {F : Nat} {ds : AS} (h : FS κ ds a ta A iw n T F) : ∃ v ds', f_Rd_factSign κ a ds = some (v, ds') ∧ FS κ ds' a ta A iw n T F ∧ Same (pdW a A) ds ds' := by
  obtain ⟨⟨F0, F1⟩, p, m, hD⟩ := h
  rw [f_Rd_factSign_e]
  obtain ⟨p1, s1, e1, h1, -, -, w1⟩ := d_takes0 hD.1 (x := 61) (b := 61) rfl (by decide) (tks_F F0 F1)
  have D1 := hD.of h1 w1
  rw [e1, bnd2_t, if_pos (show (0 : Int32) = 0 from rfl)]
  obtain ⟨p2, s2, e2, h2, -, -, w2⟩ := d_takes0 D1.1 (x := 60) (b := 60) rfl (by decide) (tks_F F0 F1)
  have D2 := D1.of h2 w2
  rw [e2, bnd2_t, if_pos (show (0 : Int32) = 0 from rfl)]
  obtain ⟨p3, s3, e3, h3, -, -, w3⟩ := d_takes0 D2.1 (x := 62) (b := 62) rfl (by decide) (tks_F F0 F1)
  have D3 := D2.of h3 w3
  obtain ⟨s4, e4, h4, w4⟩ := d_fail D3.1 (x := nI p3) (y := 0) (b := p3) (k := 0) rfl rfl
  rw [ffl_n F0 F1] at h4
  have D4 := D3.of h4 w4
  obtain ⟨v, e5⟩ := F_fsT (κ := κ) F0 F1 D4.1.2.2.2.1 0
  rw [e3, bnd2_t, if_pos (show (0 : Int32) = 0 from rfl), D3.1.2.1, e4, e5]
  exact ⟨_, s4, rfl, FS.mk F0 F1 D4, ((rd_pd (w1.tr w2)).tr (rd_pd w3)).tr (rd_pd w4)⟩
theorem F_next {F : Nat} {ds : AS} (h : FS κ ds a ta A iw n T F) : ∃ v ds', f_Rd_nextPlace κ a ds = some (nI v, ds') ∧ FS κ ds' a ta A iw n T F ∧ Same (pdW a A) ds ds' := by
  obtain ⟨⟨F0, F1⟩, p, m, hD⟩ := h
  obtain ⟨s1, e1, h1, w1⟩ := d_next hD.1
  exact ⟨_, s1, e1, FS.mk F0 F1 (hD.of h1 w1), rd_pd w1⟩
theorem F_count {F : Nat} {ds : AS} (h : FS κ ds a ta A iw n T F) (b : Nat) : ∃ ds', f_Rd_countValue κ a (nI b) ds = ds' ∧ FS κ ds' a ta A iw n T F ∧ Same (pdW a A) ds ds' := by
  obtain ⟨⟨F0, F1⟩, p, m, hD⟩ := h
  obtain ⟨s1, e1, h1, w1⟩ := d_count hD.1 (x := nI b) (b := b) rfl
  rw [ffl_n F0 F1, ite_self] at h1
  exact ⟨s1, e1, FS.mk F0 F1 (hD.of h1 w1), rd_pd w1⟩
theorem F_add (hc : PC κ a ta A t iw) {F : Nat} {ds : AS} (h : FS κ ds a ta A iw n T F) (x y : Int32) {X : Type} (g : AS → Option X) : ∃ ds', bnd (gr ds a 5) (fun c => grd (ly κ c = (0, 4)) (g (f_Cd_add κ c x y ds))) = g ds' ∧ FS κ ds' a ta A iw n T F ∧ Same (pdW a A) ds ds' := by
  obtain ⟨⟨F0, F1⟩, p, m, hD⟩ := h
  have w1 := d_add_same (κ := κ) ds A x y
  rw [hD.2.1, bnd_t, grd_t hc.2.2.1]
  exact ⟨_, rfl, FS.mk F0 F1 (hD.cd hc w1), cd_pd w1⟩
/-- behind the first sum -/
theorem F_cmpT (hc : PC κ a ta A t iw) {F : Nat} {ds : AS} (h : FS κ ds a ta A iw n T F) : ∃ ds', bnd2 (f_Rd_nextPlace κ a ds) (fun v15 s16 => bnd2 (f_Rd_factSign κ a s16) (fun v17 s18 => bnd (f_Rd_sum κ iw a (f_Rd_countValue κ a v15 s18)) (fun s19 => bnd (gr s19 a 5) (fun c21 => grd (ly κ c21 = (0, 4)) (some (f_Cd_add κ c21 v17 (0 : Int32) s19)))))) = some ds' ∧ FS κ ds' a ta A iw n T F ∧ Same (pdW a A) ds ds' := by
  obtain ⟨v1, s1, e1, h1, w1⟩ := F_next h
  rw [e1, bnd2_t]
  obtain ⟨v2, s2, e2, h2, w2⟩ := F_factSign h1
  rw [e2, bnd2_t]
  obtain ⟨s3, e3, h3, w3⟩ := F_count h2 v1
  rw [e3]
  obtain ⟨s4, e4, h4, w4⟩ := F_sum hc h3
  rw [e4, bnd_t]
  obtain ⟨s5, e5, h5, w5⟩ := F_add hc h4 v2 0 (fun z => some z)
  rw [e5]
  exact ⟨s5, rfl, h5, (((w1.tr w2).tr w3).tr w4).tr w5⟩
theorem F_cmp (hc : PC κ a ta A t iw) {F : Nat} {ds : AS} (h : FS κ ds a ta A iw n T F) : ∃ ds', cmpD κ iw a ds = some ds' ∧ FS κ ds' a ta A iw n T F ∧ Same (pdW a A) ds ds' := by
  unfold cmpD
  obtain ⟨s1, e1, h1, w1⟩ := F_sum hc h
  rw [e1, bnd_t]
  obtain ⟨s2, e2, h2, w2⟩ := F_cmpT hc h1
  exact ⟨s2, e2, h2, w1.tr w2⟩
/-- the reference's way to the sign's end -/
theorem r_cmpT {rs : AS} {b : Nat} {m : Int32} {L : List (Nat × Nat)} (h : RR_ rs q t n T b m L) {sg e : Nat} (hS : sgn T n b = some (sg, e)) : ∃ also rs', cmpT κ q (nI (T b)) rs = cmpB κ q (nI (T b)) (nI b) also rs' ∧ (6 : Int32) + (if nI (T b) = 60 then (if also = 0 then (0 : Int32) else 1) else (if nI (T b) = 61 then 2 else (if also = 0 then 4 else 3))) = nI sg ∧ RR_ rs' q t n T e m L ∧ b < e ∧ Same (pqW q t) rs rs' := by
  have hlt : b < n := by
    by_cases z : b < n
    · exact z
    · unfold sgn at hS; rw [if_neg z] at hS; cases hS
  have hn := h.1.1.2.1
  have hTb := (h.1.1.2.2 b hlt).2
  have c60 := (nI_ltk (m := T b) (k := 60) (y := 60) rfl (by omega) (by decide)).2.2.2.2
  have c61 := (nI_ltk (m := T b) (k := 61) (y := 61) rfl (by omega) (by decide)).2.2.2.2
  have c62 := (nI_ltk (m := T b) (k := 62) (y := 62) rfl (by omega) (by decide)).2.2.2.2
  have R1 := h.of (h.1.at (p' := b + 1) (by omega)) (rq_11 (Same.rf _ _))
  have w1 : Same (pqW q t) rs (ui rs q 11 (nI (b + 1))) := rq_pq (rq_11 (Same.rf _ _))
  have hsv : ∀ s0 e0, sgn T n b = some (s0, e0) → sg = s0 ∧ e = e0 := fun s0 e0 z => by
    rw [hS] at z
    have := Option.some.inj z
    rw [Prod.mk.injEq] at this
    exact this
  unfold cmpT
  simp only [jn_e]
  rw [h.1.2.1, nI_1, R1.1.1.1, R1.1.2.1]
  simp only [c60, c61, c62]
  have beh : ∀ (v3 : Int32), T b ≠ 61 → sgn T n b = some (fsv v3 (decide (b + 1 < n ∧ T (b + 1) = 61)), if b + 1 < n ∧ T (b + 1) = 61 then b + 2 else b + 1) →
      (∀ also : Int32, (6 : Int32) + (if T b = 60 then (if also = 0 then (0 : Int32) else 1) else (if T b = 61 then 2 else (if also = 0 then 4 else 3))) = if also = 0 then nI (fsv v3 false) else nI (fsv v3 true)) →
      ∃ also rs', (if nI n ≤ nI (b + 1) then cmpB κ q (nI (T b)) (nI b) 0 (ui rs q 11 (nI (b + 1))) else grd (vp_in (nI (b + 1)) 400) (if gi (ui rs q 11 (nI (b + 1))) (q + 1) (nI (b + 1)).toNatClampNeg = 61 then cmpB κ q (nI (T b)) (nI b) 1 (ui (ui rs q 11 (nI (b + 1))) q 11 (nI (b + 1) + 1)) else cmpB κ q (nI (T b)) (nI b) 0 (ui rs q 11 (nI (b + 1))))) = cmpB κ q (nI (T b)) (nI b) also rs' ∧ (6 : Int32) + (if T b = 60 then (if also = 0 then (0 : Int32) else 1) else (if T b = 61 then 2 else (if also = 0 then 4 else 3))) = nI sg ∧ RR_ rs' q t n T e m L ∧ b < e ∧ Same (pqW q t) rs rs' := by
    intro v3 h61 hs hv
    obtain ⟨hsg, he⟩ := hsv _ _ hs
    by_cases hb : b + 1 < n
    · have hb' := R1.1.1.2.2 (b + 1) hb
      rw [if_neg (nI_ge hb (by omega)), grd_t (vp_in_nI (by omega) (by decide)), nI_clamp (by omega), hb'.1]
      have e61 := sb_eq (T (b + 1)) hb'.2 61 (by decide)
      by_cases k : T (b + 1) = 61
      · rw [if_pos (show sb (T (b + 1)) = 61 from e61.mpr k), nI_1]
        rw [if_pos (show b + 1 < n ∧ T (b + 1) = 61 from ⟨hb, k⟩)] at he
        rw [decide_eq_true (show b + 1 < n ∧ T (b + 1) = 61 from ⟨hb, k⟩)] at hsg
        refine ⟨1, _, rfl, by rw [hv, if_neg (by decide), hsg], ?_, by omega, w1.tr (rq_pq (rq_11 (Same.rf _ _)))⟩
        rw [he]
        exact R1.of (R1.1.at (p' := b + 2) (by omega)) (rq_11 (Same.rf _ _))
      · rw [if_neg (show ¬ sb (T (b + 1)) = 61 from fun z => k (e61.mp z))]
        rw [if_neg (show ¬ (b + 1 < n ∧ T (b + 1) = 61) from fun z => k z.2)] at he
        rw [decide_eq_false (show ¬ (b + 1 < n ∧ T (b + 1) = 61) from fun z => k z.2)] at hsg
        exact ⟨0, _, rfl, by rw [hv, if_pos rfl, hsg], by rw [he]; exact R1, by omega, w1⟩
    · rw [if_pos (nI_le (by omega) (by omega))]
      rw [if_neg (show ¬ (b + 1 < n ∧ T (b + 1) = 61) from fun z => hb z.1)] at he
      rw [decide_eq_false (show ¬ (b + 1 < n ∧ T (b + 1) = 61) from fun z => hb z.1)] at hsg
      exact ⟨0, _, rfl, by rw [hv, if_pos rfl, hsg], by rw [he]; exact R1, by omega, w1⟩
  have hone : ¬ (1 : Int32) = 0 := by decide
  by_cases k61 : T b = 61
  · obtain ⟨hsg, he⟩ := hsv _ _ (sgn_61 hlt k61)
    have n60 : ¬ T b = 60 := by omega
    simp only [if_neg n60, if_pos k61, if_true]
    exact ⟨0, _, rfl, by rw [hsg]; rfl, by rw [he]; exact R1, by omega, w1⟩
  · by_cases k60 : T b = 60
    · have := beh 1 k61 (sgn_60 hlt k60) (fun also => by
        rw [if_pos k60]
        by_cases z : also = 0
        · rw [if_pos z, if_pos z]; rfl
        · rw [if_neg z, if_neg z]; rfl)
      simp only [if_pos k60, if_neg k61, if_true, if_neg hone]
      simp only [if_pos k60] at this
      exact this
    · by_cases k62 : T b = 62
      · have := beh 0 k61 (sgn_62 hlt k62) (fun also => by
          rw [if_neg k60, if_neg k61]
          by_cases z : also = 0
          · rw [if_pos z, if_pos z]; rfl
          · rw [if_neg z, if_neg z]; rfl)
        simp only [if_pos k62, if_neg k60, if_neg k61, if_true, if_neg hone]
        simp only [if_neg k60, if_neg k61] at this
        exact this
      · exfalso
        unfold sgn at hS
        rw [if_pos hlt, if_neg k61, if_neg k60, if_neg k62] at hS
        cases hS
theorem E_compare (hc : PC κ a ta A t iw) {pd pr m : Nat} {Ld Lr : List (Nat × Nat)} {ds rs : AS} (h : PS κ ds rs a ta A iw q t n T pd pr Ld Lr m) (hl1 : Ld.length ≤ pd) (hl2 : Lr.length ≤ pd) :
    GOOD κ a ta A iw q t n T Ld Lr pd TestR (cmpD κ iw a ds) (f_R_compare κ q rs) ds rs ∨ BAD κ a ta A iw q t n T (cmpD κ iw a ds) (f_R_compare κ q rs) ds rs := by
  have ht : t < 18 := by have := hc.2.2.2; omega
  rw [f_R_compare_e]
  unfold cmpD
  rcases E_sum hc h hl1 hl2 with ⟨ds1, rs1, R1, pd1, pr1, m1, a1, a2, a3, a4, a5, a6, a8, a9⟩ | ⟨ds1, rs1, F, a1, a2, a3, a4, a5, a6⟩
  · obtain ⟨⟨D1, C1⟩, Q1, sk1, mm1, v1, vc1⟩ := a3
    obtain ⟨hpn, hn⟩ := D1.m
    have hlo := skp_lo (T := T) hpn
    have hss := skp_skp (T := T) hpn
    rw [a1, bnd_t, a2, bnd2_t, if_neg (show ¬ (1 : Int32) = 0 by decide)]
    obtain ⟨s2, e2, h2, w2⟩ := d_next D1.1
    have D2 := D1.of h2 w2
    have C2 := C1.rd hc w2
    obtain ⟨r2, g2, k2, u2⟩ := r_see (κ := κ) Q1.1
    rw [← sk1] at k2
    have Q2 := Q1.of k2 u2
    rw [e2, bnd2_t, g2, bnd2_t]
    obtain ⟨v, p3, s3, e3, h3, hv3, w3⟩ := d_factSign D2.1
    rw [hss] at h3 hv3
    have hnx : nxt T n pr1 = if skp T n pd1 < n then nI (T (skp T n pd1)) else -1 := by unfold nxt; rw [sk1]
    rw [e3, bnd2_t, hnx]
    generalize hB : skp T n pd1 = b at *
    have hT : b < n → T b < 256 := fun z => (D1.1.1.2.2.2.2.1 _ z).2
    have D3 := D2.of h3 w3
    have C3 := C2.rd hc w3
    have wD3 : Same (pdW a A) ds s3 := (a8.tr (rd_pd w2)).tr (rd_pd w3)
    have wR2 : Same (pqW q t) rs r2 := a9.tr (rq_pq u2)
    cases hS : sgn T n b with
    | none =>
      right
      rw [hS] at D3
      have nq : ∀ c, c < 128 → ((if b < n then nI (T b) else (-1 : Int32)) = nI c → (b < n ∧ T b = c)) := fun c hcc z => by
        by_cases hlt : b < n
        · have := hT hlt
          rw [if_pos hlt, nI_eq (by omega) (by omega)] at z
          exact ⟨hlt, z⟩
        · rw [if_neg hlt] at z
          have : (-1 : Int32).toInt = (nI c).toInt := congrArg Int32.toInt z
          rw [nI_toInt (by omega), show (-1 : Int32).toInt = -1 by decide] at this
          omega
      have n60 : ¬ (if b < n then nI (T b) else (-1 : Int32)) = 60 := fun z => by have y := nq 60 (by decide) z; rw [sgn_60 y.1 y.2] at hS; cases hS
      have n61 : ¬ (if b < n then nI (T b) else (-1 : Int32)) = 61 := fun z => by have y := nq 61 (by decide) z; rw [sgn_61 y.1 y.2] at hS; cases hS
      have n62 : ¬ (if b < n then nI (T b) else (-1 : Int32)) = 62 := fun z => by have y := nq 62 (by decide) z; rw [sgn_62 y.1 y.2] at hS; cases hS
      unfold cmpT
      rw [jn_e, if_neg n60, if_neg n61, if_neg n62, Q2.1.2.1]
      have FS3 := FS.mk (by omega) (by omega) D3
      obtain ⟨s4, e4, h4, w4⟩ := F_count FS3 b
      rw [e4]
      obtain ⟨s5, e5, h5, w5⟩ := F_sum hc h4
      rw [e5, bnd_t]
      obtain ⟨s6, e6, h6, w6⟩ := F_add hc h5 v 0 (fun z => some z)
      rw [e6]
      obtain ⟨r3, g3, k3, u3⟩ := r_fails (κ := κ) Q2.1 (x := 0) (y := nI b) (b := b) (k := 0) rfl rfl
      rw [g3, grd_t (Or.inl rfl)]
      exact ⟨s6, r3, _, rfl, h6, rfl, k3.2.2.2.1, ((wD3.tr w4).tr w5).tr w6, wR2.tr (rq_pq u3)⟩
    | some se =>
      obtain ⟨sg, e⟩ := se
      obtain ⟨hv, hpe⟩ := hv3 sg e hS
      rw [hS] at D3
      subst hv
      subst hpe
      have hlt : b < n := by
        by_cases z : b < n
        · exact z
        · unfold sgn at hS; rw [if_neg z] at hS; cases hS
      have hTb := hT hlt
      have hp3n := D3.m.1
      rw [if_pos hlt]
      obtain ⟨also, r3, g3, hsg, Q3, hbe, u3⟩ := r_cmpT (κ := κ) Q2 hS
      rw [g3]
      unfold cmpB
      rw [hsg]
      have hsg10 : 6 ≤ sg ∧ sg < 11 := by
        unfold sgn at hS
        rw [if_pos hlt] at hS
        repeat' split at hS
        all_goals first | (have := Option.some.inj hS; rw [Prod.mk.injEq] at this; omega) | cases hS
      obtain ⟨s4, e4, h4, w4⟩ := d_count D3.1 (x := nI b) (b := b) rfl
      have D4 := D3.of h4 w4
      have C4 := C3.rd hc w4
      have c60 := (nI_ltk (m := m1) (k := 60) (y := 60) rfl (by omega) (by decide)).2.2.2.2
      rw [e4]
      have wD4 := wD3.tr (rd_pd (A := A) w4)
      have wR3 := wR2.tr u3
      rcases r_makes (κ := κ) Q3 mm1 (by omega) (x := nI b) (b := b) rfl with ⟨m2, r4, g4, Q4, u4⟩ | ⟨m2, r4, g4, k4, u4⟩
      · rw [g4, bnd2_t, if_neg (show ¬ (1 : Int32) = 0 by decide)]
        rw [if_neg (fun z => by rw [c60] at z; omega), nI_1] at D4
        have hP : PS κ s4 r4 a ta A iw q t n T p3 p3 (Ld ++ R1) (Lr ++ R1) (m1 + 1) := ⟨⟨D4, C4⟩, Q4, rfl, by omega, v1, by omega⟩
        have ll1 : (Ld ++ R1).length = Ld.length + R1.length := List.length_append
        have ll2 : (Lr ++ R1).length = Lr.length + R1.length := List.length_append
        rcases E_sum hc hP (by omega) (by omega) with ⟨ds5, rs5, R2, pd5, pr5, m5, b1, b2, b3, b4, b5, b6, b8, b9⟩ | ⟨ds5, rs5, F, b1, b2, b3, b4, b5, b6⟩
        · left
          obtain ⟨⟨D5, C5⟩, Q5, sk5, mm5, v5, vc5⟩ := b3
          have hpn5 := D5.m.1
          rw [b1, bnd_t, b2, bnd2_t, if_neg (show ¬ (1 : Int32) = 0 by decide), D5.2.1, bnd_t, grd_t hc.2.2.1]
          have l51 : (Ld ++ R1 ++ R2).length = Ld.length + R1.length + R2.length := by rw [List.length_append, ll1]
          have l52 : (Lr ++ R1 ++ R2).length = Lr.length + R1.length + R2.length := by rw [List.length_append, ll2]
          obtain ⟨r6, g6, k6, u6⟩ := r_puts (κ := κ) Q5.2.1 ht Q5.2.2 (by omega) (sg, 0) (y := nI sg) (z := 0) rfl rfl
          rw [g6, bnd_t]
          have w6 := d_add_same (κ := κ) ds5 A (nI sg) 0
          have C6 := d_add (κ := κ) C5 (by omega) (sg, 0) (y := nI sg) (z := 0) rfl rfl
          refine ⟨_, r6, R1 ++ R2 ++ [(sg, 0)], pd5, pr5, m5, rfl, rfl, ⟨⟨D5.cd hc w6, ?_⟩, ?_, sk5, mm5, ?_, ?_⟩, TestR.cmp a4 b4 hsg10.1 hsg10.2, by omega, ?_, (wD4.tr b8).tr (cd_pd w6), ((wR3.tr u4).tr b9).tr (cq_pq u6)⟩
          · simpa only [List.append_assoc] using C6
          · simpa only [List.append_assoc] using Q5.cd hc k6 u6
          · intro y hy
            simp only [← List.append_assoc] at hy
            rw [List.mem_append, List.mem_singleton] at hy
            rcases hy with hy | rfl
            · exact v5 y hy
            · exact ⟨show sg < 14 by omega, show 0 < 100000 by decide⟩
          · simp only [← List.append_assoc]
            rw [vcn_app]
            have : vcn [(sg, 0)] = 0 := by
              show (if sg < 2 then 1 else 0) + 0 = 0
              rw [if_neg (by omega)]
            omega
          · simp only [List.length_append, List.length_cons, List.length_nil]
            omega
        · right
          rw [b1, bnd_t, b3, bnd2_t, if_pos (show (0 : Int32) = 0 from rfl)]
          obtain ⟨s6, e6, h6, w6⟩ := F_add hc b2 (nI sg) 0 (fun z => some z)
          rw [e6]
          exact ⟨s6, rs5, F, rfl, h6, rfl, b4, (wD4.tr b5).tr w6, (wR3.tr u4).tr b6⟩
      · right
        rw [g4, bnd2_t, if_pos (show (0 : Int32) = 0 from rfl)]
        rw [if_pos (c60.mpr m2), ffl_0] at D4
        have FS4 := FS.mk (by omega) (by omega) D4
        obtain ⟨s5, e5, h5, w5⟩ := F_sum hc FS4
        rw [e5, bnd_t]
        obtain ⟨s6, e6, h6, w6⟩ := F_add hc h5 (nI sg) 0 (fun z => some z)
        rw [e6]
        exact ⟨s6, r4, _, rfl, h6, rfl, k4, (wD4.tr w5).tr w6, wR3.tr u4⟩
  · right
    rw [a1, bnd_t, a3, bnd2_t, if_pos (show (0 : Int32) = 0 from rfl)]
    obtain ⟨s2, e2, h2, w2⟩ := F_cmpT hc a2
    exact ⟨s2, rs1, F, e2, h2, rfl, a4, a5.tr w2, a6⟩
end Compare
