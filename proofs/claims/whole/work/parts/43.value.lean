/-! a value, both readers -/
section Cnt
variable {κ : Ko} {st : AS} {a ta n p : Nat} {T : Nat → Nat} {f m : Int32}
theorem d_count (h : RS κ st a ta n T p f m) {x : Int32} {b : Nat} (hx : x = nI b) : ∃ st', f_Rd_countValue κ a x st = st' ∧ RS κ st' a ta n T p (if m = 60 then ffl f 3 b else f) (m + 1) ∧ Same (rdW a) st st' := by
  unfold f_Rd_countValue
  simp only [jn_e]
  rw [h.2.2.2.2]
  by_cases h60 : m = 60
  · rw [if_pos h60, if_pos h60]
    obtain ⟨s1, e1, h1, w1⟩ := d_fail h (x := x) (y := 3) (b := b) (k := 3) hx rfl
    rw [e1, h1.2.2.2.2]
    exact ⟨_, rfl, h1.vl _, rd_4 w1⟩
  · rw [if_neg h60, if_neg h60]
    exact ⟨_, rfl, h.vl _, rd_4 (Same.rf _ _)⟩
end Cnt
theorem ffl_n {F k b : Nat} (h0 : 0 < F) (h : F < 4000) : ffl (nI F) k b = nI F := by unfold ffl; rw [if_neg (nI_ne0 h0 (by omega))]
theorem ffl_0 {k b : Nat} : ffl 0 k b = nI (1 + 8 * b + k) := if_pos rfl
theorem wRs_F {T : Nat → Nat} {n p i F : Nat} (h0 : 0 < F) (h : F < 4000) : wRs T n p (nI F) i = none := by unfold wRs; rw [if_neg (nI_ne0 h0 (by omega))]
theorem tks_F {T : Nat → Nat} {n p b F : Nat} (h0 : 0 < F) (h : F < 4000) : tks T n p (nI F) b = false := decide_eq_false (fun z => nI_ne0 h0 (by omega) z.1)
/-- a faulted end of both -/
def BAD (κ : Ko) (a ta A iw q t n : Nat) (T : Nat → Nat) (o : Option AS) (r : Option (Int32 × AS)) (ds rs : AS) : Prop :=
  ∃ ds' rs' F, o = some ds' ∧ FS κ ds' a ta A iw n T F ∧ r = some (0, rs') ∧ gi rs' q 12 = nI F ∧ Same (pdW a A) ds ds' ∧ Same (pqW q t) rs rs'
section Value
variable {κ : Ko} {a ta A t iw n q : Nat} {T : Nat → Nat} {ds rs : AS}
theorem DR.m {κ : Ko} {ds : AS} {a ta A iw n p : Nat} {T : Nat → Nat} {f m : Int32} (h : DR κ ds a ta A iw n T p f m) : p ≤ n ∧ n ≤ 400 := ⟨h.1.2.2.1, h.1.1.2.2.1⟩
theorem F_value (hc : PC κ a ta A t iw) {F : Nat} (h : FS κ ds a ta A iw n T F) : ∃ ds', f_Rd_value κ iw a ds = some ds' ∧ FS κ ds' a ta A iw n T F ∧ Same (pdW a A) ds ds' := by
  obtain ⟨⟨F0, F1⟩, p, m, hD⟩ := h
  have hi : iw < 11 := by have := hc.2.2.2; omega
  unfold f_Rd_value
  obtain ⟨s1, e1, h1, w1⟩ := d_next hD.1
  have D1 := hD.of h1 w1
  rw [e1, bnd2_t, grd_t D1.2.2]
  obtain ⟨s2, e2, h2, w2⟩ := d_word D1.1 hi
  have D2 := D1.of h2 w2
  rw [e2, bnd2_t]
  rw [wRs_F F0 F1] at D2 ⊢
  simp only [jn_e]
  rw [if_pos (show oI none = -1 from rfl), D2.2.1, bnd_t, grd_t hc.2.2.1]
  obtain ⟨s3, e3, h3, w3⟩ := d_number D2.1 (x := 0) (y := 99999) (lo := 0) (hi := 99999) rfl rfl (by decide) (by decide)
  have D3 := D2.of h3 w3
  rw [if_neg (nI_ne0 F0 (by omega))] at D3
  rw [e3, bnd2_t]
  have w4 := d_add_same (κ := κ) s3 A 0 (nI (nvl5 T (skp T n (skp T n (skp T n p))) (den T n (skp T n (skp T n (skp T n p))))))
  have D4 := D3.cd hc w4
  obtain ⟨s5, e5, h5, w5⟩ := d_count D4.1 (x := nI (skp T n p)) (b := skp T n p) rfl
  have D5 := D4.of h5 w5
  rw [show (if m = 60 then ffl (nI F) 3 (skp T n p) else nI F) = nI F by rw [ffl_n F0 F1, ite_self]] at D5
  exact ⟨s5, by rw [e5], ⟨⟨F0, F1⟩, _, _, D5⟩, ((((rd_pd w1).tr (rd_pd w2)).tr (rd_pd w3)).tr (cd_pd w4)).tr (rd_pd w5)⟩
theorem r_makes {p : Nat} {m : Nat} {L : List (Nat × Nat)} (h : RR_ rs q t n T p (nI m) L) (hm : m ≤ 60) (hp : p ≤ 400) {x : Int32} {b : Nat} (hx : x = nI b) : (m < 60 ∧ ∃ rs', f_R_makes κ q x rs = some (1, rs') ∧ RR_ rs' q t n T p (nI (m + 1)) L ∧ Same (pqW q t) rs rs') ∨ (m = 60 ∧ ∃ rs', f_R_makes κ q x rs = some (0, rs') ∧ gi rs' q 12 = nI (1 + 8 * b + 3) ∧ Same (pqW q t) rs rs') := by
  have hc := (nI_ltk (m := m) (k := 60) (y := 60) rfl (by omega) (by decide)).2.2.2.2
  unfold f_R_makes
  rw [h.1.2.2.2.2]
  simp only [hc]
  by_cases h60 : m = 60
  · right
    rw [if_pos h60]
    obtain ⟨s1, e1, h1, w1⟩ := r_fails (κ := κ) h.1 (x := 3) (y := x) (b := b) (k := 3) rfl hx
    rw [e1, grd_t (Or.inl rfl)]
    exact ⟨h60, s1, rfl, h1.2.2.2.1, rq_pq w1⟩
  · left
    rw [if_neg h60, nI_1]
    refine ⟨by omega, _, rfl, ⟨⟨h.1.1.ui (by decide), ?_, h.1.2.2.1, ?_, ?_⟩, ?_, ?_⟩, (Same.rf _ rs).ui (Or.inl ⟨rfl, by decide, by decide⟩)⟩
    · rw [gi_ui, if_neg (fun z => by omega)]; exact h.1.2.1
    · rw [gi_ui, if_neg (fun z => by omega)]; exact h.1.2.2.2.1
    · rw [gi_ui, if_pos ⟨rfl, rfl⟩]
    · rw [gi_ui, if_neg (fun z => by omega)]; exact h.2.1
    · exact h.2.2.of (W := fun p j => p = q ∧ j = 15) ((Same.rf _ rs).ui ⟨rfl, rfl⟩) (fun z => by omega) (fun j z => by omega)
theorem E_value (hc : PC κ a ta A t iw) {pd pr m : Nat} {Ld Lr : List (Nat × Nat)} (h : PS κ ds rs a ta A iw q t n T pd pr Ld Lr m) (hl1 : Ld.length ≤ pd) (hl2 : Lr.length ≤ pd) :
    (∃ ds' rs' x p', f_Rd_value κ iw a ds = some ds' ∧ f_R_value κ q rs = some (1, rs') ∧ PS κ ds' rs' a ta A iw q t n T p' p' (Ld ++ [x]) (Lr ++ [x]) (m + 1) ∧ SumR [x] ∧ pd < p' ∧ skp T n pd < p' ∧ Same (pdW a A) ds ds' ∧ Same (pqW q t) rs rs') ∨
    BAD κ a ta A iw q t n T (f_Rd_value κ iw a ds) (f_R_value κ q rs) ds rs := by
  obtain ⟨⟨hD, hC⟩, hR, hsk, hm, hv, hvc⟩ := h
  obtain ⟨hpn, hn⟩ := hD.m
  have hi : iw < 11 := by have := hc.2.2.2; omega
  have ht : t < 18 := by have := hc.2.2.2; omega
  have hlo := skp_lo (T := T) hpn
  unfold f_Rd_value f_R_value
  obtain ⟨s1, e1, h1, w1⟩ := d_next hD.1
  have D1 := hD.of h1 w1
  have C1 := hC.rd hc w1
  obtain ⟨r1, g1, k1, v1⟩ := r_see (κ := κ) hR.1
  rw [← hsk] at k1
  have R1 := hR.of k1 v1
  rw [e1, bnd2_t, grd_t D1.2.2, g1, bnd2_t, R1.1.2.1]
  obtain ⟨s2, e2, h2, w2⟩ := d_word D1.1 hi
  have hss := skp_skp (T := T) hpn
  rw [show wRs T n (skp T n pd) 0 iw = wAm T (skp T n pd) (wen T n (skp T n pd)) (lw iw) 0 by unfold wRs; rw [if_pos rfl, hss]] at e2 h2
  rw [hss] at h2
  generalize hB : skp T n pd = b at *
  have hbn : b ≤ n := h1.2.2.1
  rw [e2, bnd2_t, r_isDigit R1.1.1 (by omega), bnd_t]
  simp only [jn_e]
  have c60 := (nI_ltk (m := m) (k := 60) (y := 60) rfl (by omega) (by decide)).2.2.2.2
  by_cases hd : b < n ∧ tpD T b = true
  · -- a number
    rw [if_pos hd, if_neg (show ¬ (1 : Int32) = 0 by decide)]
    have hdd := of_decide_eq_true hd.2
    have hwe : wen T n b = b := tpE_f (decide_eq_false (fun z => by omega))
    have hwn : wAm T b (wen T n b) (lw iw) 0 = none := by rw [hwe]; exact wAm_0 _ _ (lw_gd iw hi).1
    rw [hwn] at h2 ⊢
    have D2 := D1.of h2 w2
    have C2 := C1.rd hc w2
    rw [if_pos (show oI none = -1 from rfl), D2.2.1, bnd_t, grd_t hc.2.2.1]
    obtain ⟨s3, e3, h3, w3⟩ := d_number D2.1 (x := 0) (y := 99999) (lo := 0) (hi := 99999) rfl rfl (by decide) (by decide)
    obtain ⟨p', v, r2, g2, k2, k2v, v2⟩ := r_number (κ := κ) R1.1 (x := 0) (y := 99999) (lo := 0) (hi := 99999) rfl rfl (by decide) (by decide)
    have hbb : skp T n b = b := hss
    rw [if_pos rfl] at h3
    rw [hbb] at e3 h3 k2v
    have D3 := D2.of h3 w3
    have C3 := C2.rd hc w3
    have R2 : nfl T n b 0 99999 = 0 → RR_ r2 q t n T p' (nI m) Lr := fun z => R1.of (by rw [z] at k2; exact k2) v2
    rw [e3, bnd2_t, g2, bnd2_t]
    have w4 := d_add_same (κ := κ) s3 A 0 (nI (nvl5 T b (den T n b)))
    have D4 := D3.cd hc w4
    have hnl := nfl_lt (T := T) (n := n) (p := b) (lo := 0) (hi := 99999) hn hbn
    obtain ⟨s5, e5, h5, w5⟩ := d_count D4.1 (x := nI b) (b := b) rfl
    have D5 := D4.of h5 w5
    have wD : Same (pdW a A) ds s5 := ((((rd_pd w1).tr (rd_pd w2)).tr (rd_pd w3)).tr (cd_pd w4)).tr (rd_pd w5)
    rw [e5]
    by_cases hf : nfl T n b 0 99999 = 0
    · rw [if_pos hf, if_neg (show ¬ (1 : Int32) = 0 by decide)]
      obtain ⟨z1, z2, z3⟩ := k2v hf
      have R2' := R2 hf
      have hde := den_t (T := T) hd.1 hd.2
      have hde2 := den_lo (T := T) (show b + 1 ≤ n by omega)
      have hp' : b < p' := by rw [z1]; omega
      rcases r_makes (κ := κ) R2' hm (by have := R2'.1.2.2.1; omega) (x := nI b) (b := b) rfl with ⟨m1, r3, g3, k3, v3⟩ | ⟨m1, r3, g3, k3, v3⟩
      · left
        rw [g3, bnd2_t, if_neg (show ¬ (1 : Int32) = 0 by decide)]
        have hnum : gi r3 q 13 = nI (nvl5 T b (den T n b)) := by
          have := g3
          unfold f_R_makes at this
          rw [R2'.1.2.2.2.2] at this
          simp only [c60] at this
          rw [if_neg (by omega)] at this
          have := (Prod.mk.inj (Option.some.inj this)).2
          rw [← this, gi_ui, if_neg (fun z => by omega), z2, z3]
        obtain ⟨r4, g4, k4, v4⟩ := r_puts (κ := κ) k3.2.1 ht k3.2.2 (by omega) (0, nvl5 T b (den T n b)) (y := 0) (z := gi r3 q 13) rfl hnum
        rw [g4, bnd_t]
        rw [if_neg (fun z => by rw [c60] at z; omega), hf, nI_1] at D5
        have C4 := d_add (κ := κ) C3 (by omega) (0, nvl5 T b (den T n b)) (y := 0) (z := nI (nvl5 T b (den T n b))) rfl rfl
        have C5 := C4.rd hc w5
        have hv5 := nvl5_lt (T := T) (n := n) (b := b)
        refine ⟨s5, r4, (0, nvl5 T b (den T n b)), p', rfl, rfl, ⟨⟨by rw [z1]; exact D5, C5⟩, k3.cd hc k4 v4, rfl, by omega, ?_, ?_⟩, SumR.val (Or.inl rfl), by omega, hp', wD, (((rq_pq v1).tr (rq_pq v2)).tr v3).tr (cq_pq v4)⟩
        · intro x hx
          rw [List.mem_append, List.mem_singleton] at hx
          rcases hx with hx | rfl
          · exact hv x hx
          · exact ⟨show 0 < 14 by decide, hv5⟩
        · rw [vcn_app]; show vcn Ld + 1 ≤ m + 1; omega
      · right
        rw [g3, bnd2_t, if_pos rfl]
        rw [if_pos (c60.mpr m1), hf, show nI 0 = 0 from rfl, ffl_0] at D5
        exact ⟨s5, r3, _, rfl, FS.mk (by omega) (by omega) D5, rfl, k3, wD, ((rq_pq v1).tr (rq_pq v2)).tr v3⟩
    · right
      rw [if_neg hf, if_pos rfl]
      rw [show (if nI m = 60 then ffl (nI (nfl T n b 0 99999)) 3 b else nI (nfl T n b 0 99999)) = nI (nfl T n b 0 99999) by rw [ffl_n (by omega) hnl, ite_self]] at D5
      exact ⟨s5, r2, _, rfl, FS.mk (by omega) hnl D5, rfl, k2.2.2.2.1, wD, (rq_pq v1).tr (rq_pq v2)⟩
  · -- a word
    rw [if_neg hd, if_pos rfl]
    obtain ⟨r2, g2, k2, v2⟩ := r_wordHere (κ := κ) R1.1 R1.2.1 (by have := hc.2.2.2; omega)
    have hiw : (if t < 6 then 0 else 9) = iw := by
      have := hc.2.2.2
      by_cases h6 : t < 6
      · rw [if_pos h6]; omega
      · rw [if_neg h6]; omega
    rw [hiw, hss] at g2
    rw [hss] at k2
    have R2 := R1.of k2 v2
    rw [g2, bnd2_t]
    have hwl : ∀ j, wAm T b (wen T n b) (lw iw) 0 = some j → b < wen T n b ∧ j < (lw iw).length := fun j hj => by
      have := wAm_e _ _ _ hj (lw_gd iw hi).1
      omega
    generalize wAm T b (wen T n b) (lw iw) 0 = o at *
    cases o with
    | none =>
      right
      rw [if_neg (show ¬ (0 : Int32) ≤ oI none by decide)]
      have D2 := D1.of h2 w2
      rw [if_pos (show oI none = -1 from rfl), D2.2.1, bnd_t, grd_t hc.2.2.1]
      obtain ⟨s3, e3, h3, w3⟩ := d_number D2.1 (x := 0) (y := 99999) (lo := 0) (hi := 99999) rfl rfl (by decide) (by decide)
      have hde : den T n b = b := by
        by_cases hb : b < n
        · exact tpE_f (Bool.eq_false_iff.mpr (fun z => hd ⟨hb, z⟩))
        · exact tpE_n (by omega)
      have hnf : nfl T n b 0 99999 = 1 + 8 * b + 0 := by
        unfold nfl
        rw [hss, hde, if_pos rfl]
      rw [hnf, if_pos rfl] at h3
      have D3 := D2.of h3 w3
      rw [hss] at e3
      rw [e3, bnd2_t]
      have w4 := d_add_same (κ := κ) s3 A 0 (nI (nvl5 T b (den T n b)))
      have D4 := D3.cd hc w4
      obtain ⟨s5, e5, h5, w5⟩ := d_count D4.1 (x := nI b) (b := b) rfl
      have D5 := D4.of h5 w5
      rw [show (if nI m = 60 then ffl (nI (1 + 8 * b + 0)) 3 b else nI (1 + 8 * b + 0)) = nI (1 + 8 * b + 0) by rw [ffl_n (by omega) (by omega), ite_self]] at D5
      obtain ⟨r4, g4, k4, v4⟩ := r_fails (κ := κ) R2.1 (x := 0) (y := nI b) (b := b) (k := 0) rfl rfl
      rw [e5, g4, grd_t (Or.inl rfl)]
      exact ⟨s5, r4, _, rfl, FS.mk (by omega) (by omega) D5, rfl, k4.2.2.2.1, ((((rd_pd w1).tr (rd_pd w2)).tr (rd_pd w3)).tr (cd_pd w4)).tr (rd_pd w5), ((rq_pq v1).tr (rq_pq v2)).tr (rq_pq v4)⟩
    | some j =>
      obtain ⟨hj1, hj2⟩ := hwl j rfl
      have hj3 := (lw_gd iw hi).2.2
      have hj8 : j < 8 := by omega
      have D2 := D1.of h2 w2
      have C2 := C1.rd hc w2
      have hwn := wen_lo (T := T) hbn
      rw [if_pos (show (0 : Int32) ≤ oI (some j) from nI_pos' (by omega)), if_neg (fun z => by have := (oI_n (o := some j) (fun x hx => by have := Option.some.inj hx; omega)).mp z; cases this), D2.2.1, bnd_t, grd_t hc.2.2.1]
      have w4 := d_add_same (κ := κ) s2 A 1 (nI j)
      have D4 := D2.cd hc w4
      obtain ⟨s5, e5, h5, w5⟩ := d_count D4.1 (x := nI b) (b := b) rfl
      have D5 := D4.of h5 w5
      have wD : Same (pdW a A) ds s5 := (((rd_pd w1).tr (rd_pd w2)).tr (cd_pd w4)).tr (rd_pd w5)
      rw [show oI (some j) = nI j from rfl, e5]
      rcases r_makes (κ := κ) R2 hm (by omega) (x := nI b) (b := b) rfl with ⟨m1, r3, g3, k3, v3⟩ | ⟨m1, r3, g3, k3, v3⟩
      · left
        rw [g3, bnd2_t, if_neg (show ¬ (1 : Int32) = 0 by decide)]
        obtain ⟨r4, g4, k4, v4⟩ := r_pass (κ := κ) k3.1
        have R4 := k3.of k4 v4
        rw [g4, bnd_t]
        obtain ⟨r5, g5, k5, v5⟩ := r_puts (κ := κ) R4.2.1 ht R4.2.2 (by omega) (1, j) (y := 1) (z := nI j) rfl rfl
        rw [g5, bnd_t]
        rw [if_neg (fun z => by rw [c60] at z; omega), nI_1] at D5
        have C4 := d_add (κ := κ) C2 (by omega) (1, j) (y := 1) (z := nI j) rfl rfl
        have C5 := C4.rd hc w5
        refine ⟨s5, r5, (1, j), wen T n b, rfl, rfl, ⟨⟨D5, C5⟩, R4.cd hc k5 v5, rfl, by omega, ?_, ?_⟩, SumR.val (Or.inr ⟨rfl, hj8⟩), by omega, hj1, wD, ((((rq_pq v1).tr (rq_pq v2)).tr v3).tr (rq_pq v4)).tr (cq_pq v5)⟩
        · intro x hx
          rw [List.mem_append, List.mem_singleton] at hx
          rcases hx with hx | rfl
          · exact hv x hx
          · exact ⟨show 1 < 14 by decide, by show j < 100000; omega⟩
        · rw [vcn_app]; show vcn Ld + 1 ≤ m + 1; omega
      · right
        rw [g3, bnd2_t, if_pos rfl]
        rw [if_pos (c60.mpr m1), ffl_0] at D5
        exact ⟨s5, r3, _, rfl, FS.mk (by omega) (by omega) D5, rfl, k3, wD, ((rq_pq v1).tr (rq_pq v2)).tr v3⟩
end Value
