/-! a doing's loop -/
section DoLoop2
variable {κ : Ko} {a ta A iw a1 t n q : Nat} {T : Nat → Nat}
def DOS (κ : Ko) (ds rs : AS) (a ta A iw a1 q t n : Nat) (T : Nat → Nat) (pd pr : Nat) (md mr : Int32) (K : List c4) : Prop :=
  DR κ ds a ta A iw n T pd 0 md ∧ RR_ rs q t n T pr mr [] ∧ skp T n pd = skp T n pr ∧ KDd ds a1 K ∧ KQd rs q t K ∧ ∀ c, c ∈ K → doC c
theorem E_doL (hca : ta < a ∧ a + 4 < a1) (ht6 : 6 ≤ t ∧ t < 12) (kd : Nat → AS → Option (Int32 × AS)) (kq : Int32 → AS → Option (Int32 × AS)) (md mr : Int32) : ∀ (r pd pr dd dq x5 : Nat) (K : List c4) (ds rs : AS), r = n - pd → DOS κ ds rs a ta A iw a1 q t n T pd pr md mr K → gi rs q 17 = nI x5 → K.length ≤ x5 → x5 ≤ 12 → 100 ≤ dd + x5 → 1000 ≤ dq + pd →
    (∃ ds' rs' pd' pr' K', L_Rd_readDoing_14 κ kd dd a a1 1 (nI x5) ds = kd a ds' ∧ bnd2 (f_R_clauseHere κ q rs) (fun v s => L_R_clausesHere_5 κ kq dq q v s) = kq 1 rs' ∧ DOS κ ds' rs' a ta A iw a1 q t n T pd' pr' md mr K' ∧ Same (doW a a1) ds ds' ∧ Same (rtY q t) rs rs') ∨
    (∃ ds' rs' F, L_Rd_readDoing_14 κ kd dd a a1 1 (nI x5) ds = kd a ds' ∧ FS κ ds' a ta A iw n T F ∧ bnd2 (f_R_clauseHere κ q rs) (fun v s => L_R_clausesHere_5 κ kq dq q v s) = kq 0 rs' ∧ gi rs' q 12 = nI F ∧ Same (doW a a1) ds ds' ∧ Same (rtY q t) rs rs') := by
  intro r
  induction r using Nat.strongRecOn with
  | ind r ih =>
    intro pd pr dd dq x5 K ds rs hr h h17 hKx hx5 hdd hdq
    obtain ⟨hD, hR, hsk, hKD, hKQ, hcl⟩ := h
    obtain ⟨hpn, hn⟩ := hD.m
    have hlo := skp_lo (T := T) hpn
    have hss := skp_skp (T := T) hpn
    have hwl := wen_lo (T := T) hlo.2
    have ht : t < 18 := by omega
    obtain ⟨dd, rfl⟩ : ∃ e, dd = e + 2 := ⟨dd - 2, by omega⟩
    obtain ⟨dq, rfl⟩ : ∃ e, dq = e + 1 := ⟨dq - 1, by omega⟩
    have hk6 : t / 6 = 1 := by omega
    have hR0 := r_here (κ := κ) hR rfl hk6 (by omega) h17 hx5 (by decide)
    rw [if_neg (by decide), if_pos rfl] at hR0
    rw [readDoing_e, if_neg (show ¬ 12 < nI x5 from nI_nlt (a := 12) hx5 (by decide)), if_neg (show ¬ (1 : Int32) = 0 by decide)]
    obtain ⟨s2, e2, h2, w2⟩ := d_cw hD.1 (i := 6) (x5 := x5) (by decide) rfl hx5
    rw [hsk] at *
    rw [e2, bnd2_t]
    have KDgen : ∀ (s s' : AS) (K : List c4), KDd s a1 K → Same (rdW a) s s' → KDd s' a1 K := fun s s' K h w => h.of w (fun i d _ z => by unfold rdW at z; omega)
    have hwl1 : ∀ j, wAm T (skp T n pr) (wen T n (skp T n pr)) (lw 6) 0 = some j → skp T n pr < wen T n (skp T n pr) ∧ j < 3 := fun j hj => by
      have := wAm_e _ _ _ hj (lw_gd 6 (by decide)).1
      have e : (lw 6).length = 3 := rfl
      omega
    have badEnd : ∀ (s3 : AS) (rs3 : AS) (F : Nat) (v4 : Int32), FS κ s3 a ta A iw n T F → Same (doW a a1) ds s3 → f_R_clauseHere κ q rs = some (0, rs3) → gi rs3 q 12 = nI F → Same (rtY q t) rs rs3 →
        ∃ ds' rs' F', dgS κ a a1 v4 (dgJ κ kd (dd + 1) a a1 (nI x5)) s3 = kd a ds' ∧ FS κ ds' a ta A iw n T F' ∧ bnd2 (f_R_clauseHere κ q rs) (fun v s => L_R_clausesHere_5 κ kq (dq + 1) q v s) = kq 0 rs' ∧ gi rs' q 12 = nI F' ∧ Same (doW a a1) ds ds' ∧ Same (rtY q t) rs rs' := by
      intro s3 rs3 F v4 hF hw hcr hwr hwq
      have hq : bnd2 (f_R_clauseHere κ q rs) (fun v s => L_R_clausesHere_5 κ kq (dq + 1) q v s) = kq 0 rs3 := by rw [hcr, bnd2_t, L_R_clausesHere_5, if_pos rfl]
      obtain ⟨s5, e5, h5, w5⟩ := F_dgS (a1 := a1) hca hF v4
      obtain ⟨s6, e6, h6, w6⟩ := F_dgJ (a1 := a1) kd h5 dd (nI x5)
      exact ⟨s6, rs3, F, (e5 _).trans e6, h6, hq, hwr, (hw.tr w5).tr w6, hwq⟩
    cases hO : wAm T (skp T n pr) (wen T n (skp T n pr)) (lw 6) 0 with
    | none =>
      right
      rw [hO] at hR0 h2
      obtain ⟨rs3, a1', a2', a3'⟩ := hR0
      have D2 := hD.of h2 w2
      exact badEnd s2 rs3 (1 + 8 * skp T n pr + 0) (oI none) (FS.mk (by omega) (by omega) D2) (rd_do w2) a1' a2' (ph_Y a3')
    | some j =>
      rw [hO] at hR0 h2
      simp only [] at hR0 h2
      obtain ⟨hj1, hj3⟩ := hwl1 j hO
      have D2 := hD.of h2 w2
      by_cases k12 : x5 = 12
      · right
        obtain ⟨rs3, a1', a2', a3'⟩ := hR0.1 k12
        rw [if_pos k12] at D2
        exact badEnd s2 rs3 (1 + 8 * skp T n pr + 4) (oI (some j)) (FS.mk (by omega) (by omega) D2) (rd_do w2) a1' a2' (ph_Y a3')
      · obtain ⟨rs3, a1', a2', a3', a4'⟩ := hR0.2 (by omega)
        rw [if_neg k12] at D2
        have KQ3 := hKQ.ph a4'
        have KD2 := KDgen _ _ _ hKD w2
        have hcr : f_R_clauseHere κ q rs = bnd2 (f_R_acted κ q (nI j) rs3) gGr := by rw [a1']; unfold actK; rw [if_neg (by decide), if_pos rfl]
        obtain ⟨r4, g4, k4, v4⟩ := r_pass (κ := κ) a2'.1
        have Q4 := a2'.of k4 v4
        have KQ4 := KQ3.ph (rq_ph (t := t) v4)
        have hK12 : K.length < 12 := by omega
        have l4 : gi r4 q 17 = nI (x5 + 1) := by rw [(v4 q 17 (fun z => by unfold rqW at z; omega)).1]; exact a3'
        rcases E_act (κ := κ) hca ht D2 Q4 g4 KD2 KQ4 hK12 hj3 with ⟨s9, r9, c9, pd9, pr9, b1, b2, D9, Q9, sk9, KD9, KQ9, hc9, hp9, w9, v9⟩ | ⟨s9, r9, F, b1, b2, b3, b4, b5, b6⟩
        · obtain ⟨hpn9, -⟩ := D9.m
          have hlo9 := skp_lo (T := T) hpn9
          have hss9 := skp_skp (T := T) hpn9
          rw [b2, bnd2_t] at hcr
          unfold gGr at hcr
          rw [grd_t (Or.inr rfl)] at hcr
          have l9 : gi r9 q 17 = nI (x5 + 1) := by rw [(v9 q 17 (fun z => by unfold rtW pbW cqW ckW at z; omega)).1]; exact l4
          have wD9 : Same (doW a a1) ds s9 := (rd_do w2).tr w9
          have wR9 : Same (rtY q t) rs r9 := ((ph_Y a4').tr (ph_Y (rq_ph v4))).tr (rt_Y v9)
          have hcl9 : ∀ c, c ∈ K ++ [c9] → doC c := by
            intro c hcm
            rw [List.mem_append, List.mem_singleton] at hcm
            rcases hcm with hcm | rfl
            · exact hcl c hcm
            · exact hc9
          rw [show oI (some j) = nI j from rfl, b1, hcr, bnd2_t, L_R_clausesHere_5, if_neg (show ¬ (1 : Int32) = 0 by decide)]
          unfold dgJ
          have tk3 : ∀ b, tks T n pd9 0 b = true ↔ (skp T n pd9 < n ∧ T (skp T n pd9) = b) := fun b => by unfold tks; rw [decide_eq_true_eq]; exact ⟨fun z => z.2, fun z => ⟨rfl, z⟩⟩
          have hT3 : skp T n pd9 < n → T (skp T n pd9) < 256 := fun z => (D9.1.1.2.2.2.2.1 _ z).2
          have hnx3 : nxt T n pr9 = if skp T n pd9 < n then nI (T (skp T n pd9)) else -1 := by unfold nxt; rw [sk9]
          obtain ⟨r10, g10, k10, v10⟩ := r_see (κ := κ) Q9.1
          have Q10 := Q9.of k10 v10
          rw [← sk9] at Q10
          rw [g10, bnd2_t]
          by_cases k59 : tks T n pd9 0 59 = true
          · obtain ⟨z1, z2⟩ := (tk3 _).mp k59
            obtain ⟨s10, e10, h10, w10⟩ := d_takes1 D9.1 (x := 59) (b := 59) rfl (by decide) k59
            have D10 := D9.of h10 w10
            rw [e10, bnd2_t, if_pos (show nxt T n pr9 = 59 by rw [hnx3, if_pos z1, z2]; rfl), Q10.1.2.1, nI_1, nI_1]
            have w11 : Same (rqW q) r10 (ui r10 q 11 (nI (skp T n pd9 + 1))) := rq_11 (Same.rf _ _)
            have Q11 := Q10.of (Q10.1.at (p' := skp T n pd9 + 1) (by omega)) w11
            have hL11 : DOS κ s10 (ui r10 q 11 (nI (skp T n pd9 + 1))) a ta A iw a1 q t n T (skp T n pd9 + 1) (skp T n pd9 + 1) md mr (K ++ [c9]) := ⟨D10, Q11, rfl, KDgen _ _ _ KD9 w10, KQ9.ph (rq_ph (v10.tr w11)), hcl9⟩
            have h175 : gi (ui r10 q 11 (nI (skp T n pd9 + 1))) q 17 = nI (x5 + 1) := by rw [((v10.tr w11) q 17 (fun z => by unfold rqW at z; omega)).1]; exact l9
            rcases ih (n - (skp T n pd9 + 1)) (by omega) (skp T n pd9 + 1) (skp T n pd9 + 1) (dd + 1) dq (x5 + 1) _ s10 _ rfl hL11 h175 (by rw [List.length_append]; simp only [List.length_cons, List.length_nil]; omega) (by omega) (by omega) (by omega) with ⟨ds', rs', pd', pr', K', b1, b2, b3, b4, b5⟩ | ⟨ds', rs', F, b1, b2, b3, b4, b5, b6⟩
            · left
              exact ⟨ds', rs', pd', pr', K', b1, b2, b3, (wD9.tr (rd_do w10)).tr b4, (wR9.tr (ph_Y (rq_ph (v10.tr w11)))).tr b5⟩
            · right
              exact ⟨ds', rs', F, b1, b2, b3, b4, (wD9.tr (rd_do w10)).tr b5, (wR9.tr (ph_Y (rq_ph (v10.tr w11)))).tr b6⟩
          · left
            obtain ⟨p10, s10, e10, h10, -, q10, w10⟩ := d_takes0 D9.1 (x := 59) (b := 59) rfl (by decide) (Bool.eq_false_iff.mpr k59)
            rw [q10 rfl] at h10
            have D10 := D9.of h10 w10
            rw [e10, bnd2_t, L_Rd_readDoing_14, if_pos (show (0 : Int32) = 0 from rfl), ite_self, if_neg (show ¬ nxt T n pr9 = 59 from fun z => k59 (by
              rw [tk3]
              rw [hnx3] at z
              by_cases zz : skp T n pd9 < n
              · have := hT3 zz
                rw [if_pos zz] at z
                exact ⟨zz, (nI_eq (b := 59) (by omega) (by decide)).mp z⟩
              · rw [if_neg zz] at z
                exact absurd z (by decide)))]
            exact ⟨s10, r10, skp T n pd9, skp T n pd9, _, rfl, rfl, ⟨D10, Q10, rfl, KDgen _ _ _ KD9 w10, KQ9.ph (rq_ph v10), hcl9⟩, wD9.tr (rd_do w10), wR9.tr (ph_Y (rq_ph v10))⟩
        · right
          rw [b3, bnd2_t] at hcr
          unfold gGr at hcr
          rw [grd_t (Or.inl rfl)] at hcr
          obtain ⟨s10, e10, h10, w10⟩ := F_dgJ (a1 := a1) kd b2 dd (nI x5)
          exact ⟨s10, r9, F, (b1 _).trans e10, h10, by rw [hcr, bnd2_t, L_R_clausesHere_5, if_pos rfl], b4, ((rd_do w2).tr b5).tr w10, ((ph_Y a4').tr (ph_Y (rq_ph v4))).tr (rt_Y b6)⟩
end DoLoop2
